section
/-! rows pasted from kit/rows -/
theorem pk_us {f : Nat → Int32} {k : Nat} {x : Int32} : upd f k x k = x := if_pos rfl
theorem pk_un {f : Nat → Int32} {k j : Nat} {x : Int32} (h : j ≠ k) : upd f k x j = f j := if_neg h
theorem pk_sub {a b : Nat} (h : b ≤ a) : nI a - nI b = nI (a - b) := by
  obtain ⟨c, rfl⟩ : ∃ c, a = c + b := ⟨a - b, by omega⟩
  rw [← nI_add, Int32.add_sub_cancel, Nat.add_sub_cancel]
theorem pk_m1 (n : Nat) : nI (n + 1) + (-1) = nI n := by
  rw [← nI_1, Int32.add_assoc, show (1 : Int32) + (-1) = 0 from rfl, Int32.add_zero]
theorem pk_mul (a b : Nat) : nI a * nI b = nI (a * b) := (Int32.ofNat_mul a b).symm
theorem pk_sub_toInt {a b : Nat} (ha : a < 2 ^ 30) (hb : b < 2 ^ 30) : (nI a - nI b).toInt = (a : Int) - b := by
  rw [Int32.toInt_sub, nI_toInt (by omega), nI_toInt (by omega)]
  exact Int.bmod_eq_of_le (by omega) (by omega)
theorem pk_sneg {a b : Nat} (hb : b < 2 ^ 30) (h : a < b) : nI a - nI b < 0 := by
  rw [Int32.lt_iff_toInt_lt, pk_sub_toInt (by omega) hb, show (0 : Int32).toInt = 0 from by decide]
  omega
theorem pk_ix (x : Int32) {n : Nat} (hn : n < 2 ^ 31) : x < 0 ∨ nI n ≤ x ∨ ∃ j : Nat, j < n ∧ x = nI j := by
  by_cases h : x < 0
  · exact Or.inl h
  · obtain ⟨j, hj, rfl⟩ := nI_of h
    by_cases h2 : j < n
    · exact Or.inr (Or.inr ⟨j, h2, rfl⟩)
    · exact Or.inr (Or.inl (nI_le (by omega) hj))
theorem pk_le {x y : Int32} {A B : Prop} (a b : Nat) (f : a ≤ b → A) (g : b < a → B) (hx : x = nI a := by rfl) (hy : y = nI b := by rfl) (ha : a < 2 ^ 31 := by omega) (hb : b < 2 ^ 31 := by omega) : (x ≤ y → A) ∧ (¬ x ≤ y → B) := by
  subst hx hy
  rw [nI_leI ha hb]
  exact ⟨f, fun z => g (by omega)⟩
theorem pk_lt {x y : Int32} {A B : Prop} (a b : Nat) (f : a < b → A) (g : b ≤ a → B) (hx : x = nI a := by rfl) (hy : y = nI b := by rfl) (ha : a < 2 ^ 31 := by omega) (hb : b < 2 ^ 31 := by omega) : (x < y → A) ∧ (¬ x < y → B) := by
  subst hx hy
  rw [nI_ltI ha hb]
  exact ⟨f, fun z => g (by omega)⟩
theorem pk_eq {x y : Int32} {A B : Prop} (a b : Nat) (f : a = b → A) (g : a ≠ b → B) (hx : x = nI a := by rfl) (hy : y = nI b := by rfl) (ha : a < 2 ^ 31 := by omega) (hb : b < 2 ^ 31 := by omega) : (x = y → A) ∧ (¬ x = y → B) := by
  subst hx hy
  rw [nI_eq ha hb]
  exact ⟨f, g⟩
theorem pk_in {x : Int32} (n N : Nat) (h : n < N) (hx : x = nI n := by rfl) (hN : N < 2 ^ 31 := by omega) : vp_in x N := by
  subst hx
  exact vp_in_nI h hN
theorem pk_cl {x : Int32} (n : Nat) (hx : x = nI n := by rfl) (h : n < 2 ^ 31 := by omega) : x.toNatClampNeg = n := by
  subst hx
  exact nI_clamp h
end
section
/-! the row of parts under way, whether a place is inside, where a part ends: all of the codes alone -/
abbrev sk_op (x : Int32) : Prop := x = 16 ∨ x = 19 ∨ x = 23
abbrev sk_cl (x : Int32) : Prop := x = 18 ∨ x = 20 ∨ x = 22 ∨ x = 24
def sk_chg (p : Nat) : List (Nat × Nat) → List (Nat × Nat)
  | [] => []
  | (q, _) :: t => (q, p) :: t
def sk_R (c : Nat → Int32) : Nat → List (Nat × Nat)
  | 0 => []
  | p + 1 => if sk_op (c p) then (p, p) :: sk_R c p else if sk_cl (c p) then (sk_R c p).tail else if c p = 17 ∨ c p = 21 then sk_chg p (sk_R c p) else if c p = 26 then [] else sk_R c p
def sk_in (c : Nat → Int32) : Nat → Int32
  | 0 => 0
  | p + 1 => if c p = 26 then 1 else if c p = 27 then 0 else sk_in c p
def sk_hs (c : Nat → Int32) : List (Nat × Nat) → Int32
  | [] => -1
  | (_, k) :: _ => c k
def sk_tm (c : Nat → Int32) : List (Nat × Nat) → List (Nat × Nat)
  | [] => []
  | (q, k) :: t => if c k = 23 then (q, k) :: t else sk_tm c t
def sk_bh (c : Nat → Int32) (e : Bool) : Nat → Nat → Nat → Nat
  | 0, q, _ => q - 1
  | f + 1, q, k => if k = 0 ∧ (sk_cl (c q) ∨ (e = true ∧ c q = 17)) then q else sk_bh c e f (q + 1) (if sk_op (c q) then k + 1 else if sk_cl (c q) then k - 1 else k)
def sk_vs (c : Nat → Int32) : Nat → Nat
  | 0 => 0
  | p + 1 => if c p = 28 then sk_vs c p + 1 else sk_vs c p
abbrev sk_nm (x : Int32) : Prop := ¬ x < 0 ∧ ¬ 11 < x
abbrev sk_df (c a : Nat → Int32) (q : Nat) (x : Int32) : Prop := (c q = 26 ∨ c q = 28) ∧ a q = x
/-- token p inside a definition makes no error -/
def sk_Ok (c a : Nat → Int32) (p : Nat) : Prop :=
  (¬ c p < 0 ∧ ¬ 27 < c p ∧ c p ≠ 26) ∧ (c p = 15 → sk_nm (a p)) ∧ (sk_op (c p) → (sk_R c p).length < 6)
  ∧ (c p = 17 → sk_hs c (sk_R c p) = 16) ∧ (c p = 18 → sk_hs c (sk_R c p) = 16 ∨ sk_hs c (sk_R c p) = 17)
  ∧ (c p = 20 → sk_hs c (sk_R c p) = 19) ∧ (c p = 21 → sk_hs c (sk_R c p) = 19) ∧ (c p = 22 → sk_hs c (sk_R c p) = 21)
  ∧ (c p = 24 → sk_hs c (sk_R c p) = 23) ∧ (c p = 25 → sk_tm c (sk_R c p) ≠ []) ∧ (c p = 27 → sk_R c p = [])
/-- .. and one outside -/
def sk_Oo (c a : Nat → Int32) (p : Nat) : Prop := (c p = 26 ∨ c p = 28) ∧ sk_nm (a p) ∧ ∀ q, q < p → ¬ sk_df c a q (a p)
def sk_Tk (c a : Nat → Int32) (p : Nat) : Prop := (sk_in c p = 0 → sk_Oo c a p) ∧ (sk_in c p = 1 → sk_Ok c a p)

theorem sk_in01 (c : Nat → Int32) : ∀ p, sk_in c p = 0 ∨ sk_in c p = 1
  | 0 => Or.inl rfl
  | p + 1 => by
    unfold sk_in
    by_cases h : c p = 26
    · rw [if_pos h]; exact Or.inr rfl
    · rw [if_neg h]
      by_cases h' : c p = 27
      · rw [if_pos h']; exact Or.inl rfl
      · rw [if_neg h']; exact sk_in01 c p
theorem sk_inS {c : Nat → Int32} {p : Nat} (h : c p ≠ 26) (h' : c p ≠ 27) : sk_in c (p + 1) = sk_in c p := by
  show (if c p = 26 then (1 : Int32) else if c p = 27 then 0 else sk_in c p) = _
  rw [if_neg h, if_neg h']
theorem sk_in26 {c : Nat → Int32} {p : Nat} (h : c p = 26) : sk_in c (p + 1) = 1 := by
  show (if c p = 26 then (1 : Int32) else if c p = 27 then 0 else sk_in c p) = _
  rw [if_pos h]
theorem sk_in27 {c : Nat → Int32} {p : Nat} (h : c p = 27) : sk_in c (p + 1) = 0 := by
  show (if c p = 26 then (1 : Int32) else if c p = 27 then 0 else sk_in c p) = _
  rw [if_neg (by rw [h]; decide), if_pos h]
theorem sk_Rop {c : Nat → Int32} {p : Nat} (h : sk_op (c p)) : sk_R c (p + 1) = (p, p) :: sk_R c p := by
  rw [sk_R, if_pos h]
theorem sk_opcl {x : Int32} (h : sk_cl x) : ¬ sk_op x := by
  rcases h with h | h | h | h <;> rw [h] <;> decide
theorem sk_Rcl {c : Nat → Int32} {p : Nat} (h : sk_cl (c p)) : sk_R c (p + 1) = (sk_R c p).tail := by
  rw [sk_R, if_neg (sk_opcl h), if_pos h]
theorem sk_Rch {c : Nat → Int32} {p : Nat} (h : c p = 17 ∨ c p = 21) : sk_R c (p + 1) = sk_chg p (sk_R c p) := by
  rw [sk_R, if_neg (by rcases h with h | h <;> rw [h] <;> decide), if_neg (by rcases h with h | h <;> rw [h] <;> decide), if_pos h]
theorem sk_R26 {c : Nat → Int32} {p : Nat} (h : c p = 26) : sk_R c (p + 1) = [] := by
  rw [sk_R, if_neg (by rw [h]; decide), if_neg (by rw [h]; decide), if_neg (by rw [h]; decide), if_pos h]
theorem sk_Rpl {c : Nat → Int32} {p : Nat} (h1 : ¬ sk_op (c p)) (h2 : ¬ sk_cl (c p)) (h3 : ¬ (c p = 17 ∨ c p = 21)) (h4 : c p ≠ 26) : sk_R c (p + 1) = sk_R c p := by
  rw [sk_R, if_neg h1, if_neg h2, if_neg h3, if_neg h4]
/-- what stands of a row of parts under way -/
def sk_HI (c : Nat → Int32) (p : Nat) : List (Nat × Nat) → Prop
  | [] => True
  | (q, k) :: t => sk_R c q = t ∧ q < p ∧ q ≤ k ∧ k < p ∧ sk_in c (q + 1) = 1 ∧ sk_op (c q) ∧ (k = q ∨ ∃ k', sk_R c k = (q, k') :: t) ∧ (c k = 23 ↔ c q = 23) ∧ sk_HI c p t
theorem sk_HIm {c : Nat → Int32} {p : Nat} : ∀ {L : List (Nat × Nat)}, sk_HI c p L → sk_HI c (p + 1) L
  | [], _ => trivial
  | (_, _) :: _, ⟨h1, h2, h3, h4, h5, h6, h7, h8, h9⟩ => ⟨h1, by omega, h3, by omega, h5, h6, h7, h8, sk_HIm h9⟩
theorem sk_HItl {c : Nat → Int32} {p : Nat} : ∀ {L : List (Nat × Nat)}, sk_HI c p L → sk_HI c p L.tail
  | [], h => h
  | (_, _) :: _, ⟨_, _, _, _, _, _, _, _, h9⟩ => h9
/-- one step of the row -/
theorem sk_HIs {c a : Nat → Int32} {p : Nat} (H : sk_HI c p (sk_R c p)) (K : sk_Tk c a p) (E : sk_in c p = 0 → sk_R c p = []) : sk_HI c (p + 1) (sk_R c (p + 1)) ∧ (sk_in c (p + 1) = 0 → sk_R c (p + 1) = []) := by
  rcases sk_in01 c p with z | z
  · have O := K.1 z
    have E' := E z
    rcases O.1 with h | h
    · rw [sk_R26 h]; exact ⟨trivial, fun _ => rfl⟩
    · have e : sk_R c (p + 1) = sk_R c p := sk_Rpl (by rw [h]; decide) (by rw [h]; decide) (by rw [h]; decide) (by rw [h]; decide)
      rw [e, E']; exact ⟨trivial, fun _ => rfl⟩
  · have O := K.2 z
    obtain ⟨⟨_, _, o26⟩, _, oop, o17, o18, o20, o21, o22, o24, o25, o27⟩ := O
    by_cases h : sk_op (c p)
    · rw [sk_Rop h]
      have i1 : sk_in c (p + 1) = 1 := by
        rw [sk_inS o26 (by rcases h with h | h | h <;> rw [h] <;> decide)]; exact z
      refine ⟨⟨rfl, by omega, Nat.le_refl _, by omega, i1, h, Or.inl rfl, Iff.rfl, sk_HIm H⟩, fun y => absurd (y.symm.trans i1) (by decide)⟩
    · by_cases h2 : sk_cl (c p)
      · rw [sk_Rcl h2]
        have i1 : sk_in c (p + 1) = 1 := by
          rw [sk_inS o26 (by rcases h2 with h | h | h | h <;> rw [h] <;> decide)]; exact z
        exact ⟨sk_HItl (sk_HIm H), fun y => absurd (y.symm.trans i1) (by decide)⟩
      · by_cases h3 : c p = 17 ∨ c p = 21
        · rw [sk_Rch h3]
          have i1 : sk_in c (p + 1) = 1 := by
            rw [sk_inS o26 (by rcases h3 with h | h <;> rw [h] <;> decide)]; exact z
          refine ⟨?_, fun y => absurd (y.symm.trans i1) (by decide)⟩
          have hs : sk_hs c (sk_R c p) = 16 ∨ sk_hs c (sk_R c p) = 19 := by
            rcases h3 with h | h
            · exact Or.inl (o17 h)
            · exact Or.inr (o21 h)
          revert hs
          generalize hL : sk_R c p = L at H
          cases L with
          | nil => intro hs; exact trivial
          | cons x t =>
            obtain ⟨q, k⟩ := x
            intro hs
            obtain ⟨h1, h2', h3', h4, h5, h6, h7, h8, h9⟩ := H
            refine ⟨h1, by omega, by omega, by omega, h5, h6, Or.inr ⟨k, hL⟩, ?_, sk_HIm h9⟩
            have n1 : ¬ c p = 23 := by rcases h3 with h | h <;> rw [h] <;> decide
            have n2 : ¬ c q = 23 := by
              rw [← h8]
              rcases hs with h | h
              · have : c k = 16 := h
                rw [this]; decide
              · have : c k = 19 := h
                rw [this]; decide
            exact ⟨fun y => absurd y n1, fun y => absurd y n2⟩
        · have e : sk_R c (p + 1) = sk_R c p := sk_Rpl h h2 h3 o26
          rw [e]
          refine ⟨sk_HIm H, fun y => ?_⟩
          by_cases h4 : c p = 27
          · exact o27 h4
          · rw [sk_inS o26 h4, z] at y
            exact absurd y (by decide)
theorem sk_HIa {c a : Nat → Int32} : ∀ {p : Nat}, (∀ q, q < p → sk_Tk c a q) → sk_HI c p (sk_R c p) ∧ (sk_in c p = 0 → sk_R c p = [])
  | 0, _ => ⟨trivial, fun _ => rfl⟩
  | p + 1, h => by
    have ih := sk_HIa (p := p) (fun q hq => h q (by omega))
    exact sk_HIs ih.1 (h p (by omega)) ih.2
/-- the forward scans that are under way -/
def sk_SK (c : Nat → Int32) (T p : Nat) : Nat → List (Nat × Nat) → Prop
  | _, [] => True
  | i, (_, k) :: t => (c k ≠ 19 → sk_bh c (decide (c k = 16)) (T - (k + 1)) (k + 1) 0 = sk_bh c (decide (c k = 16)) (T - p) p i) ∧ sk_SK c T p (i + 1) t
theorem sk_bhT {c : Nat → Int32} {e : Bool} {T q k : Nat} (h : q < T) (hm : k = 0 ∧ (sk_cl (c q) ∨ (e = true ∧ c q = 17))) : sk_bh c e (T - q) q k = q := by
  obtain ⟨f, hf⟩ : ∃ f, T - q = f + 1 := ⟨T - q - 1, by omega⟩
  rw [hf, sk_bh, if_pos hm]
theorem sk_bhF {c : Nat → Int32} {e : Bool} {T q k : Nat} (h : q < T) (hm : ¬ (k = 0 ∧ (sk_cl (c q) ∨ (e = true ∧ c q = 17)))) : sk_bh c e (T - q) q k = sk_bh c e (T - (q + 1)) (q + 1) (if sk_op (c q) then k + 1 else if sk_cl (c q) then k - 1 else k) := by
  obtain ⟨f, hf⟩ : ∃ f, T - q = f + 1 := ⟨T - q - 1, by omega⟩
  have : T - (q + 1) = f := by omega
  rw [hf, sk_bh, if_neg hm, this]
theorem sk_SKop {c : Nat → Int32} {T p : Nat} (hp : p < T) (h : sk_op (c p)) : ∀ {L : List (Nat × Nat)} {i : Nat}, sk_SK c T p i L → sk_SK c T (p + 1) (i + 1) L
  | [], _, _ => trivial
  | (_, k) :: t, i, ⟨h1, h2⟩ => ⟨fun z => by
      rw [h1 z, sk_bhF hp (by
        intro y
        rcases y.2 with y | y
        · exact sk_opcl y h
        · rcases h with h | h | h <;> rw [h] at y <;> exact absurd y.2 (by decide)), if_pos h], sk_SKop hp h h2⟩
theorem sk_SKcl {c : Nat → Int32} {T p : Nat} (hp : p < T) (h : sk_cl (c p)) : ∀ {L : List (Nat × Nat)} {i : Nat}, sk_SK c T p (i + 1) L → sk_SK c T (p + 1) i L
  | [], _, _ => trivial
  | (_, k) :: t, i, ⟨h1, h2⟩ => ⟨fun z => by
      rw [h1 z, sk_bhF hp (by intro y; omega), if_neg (sk_opcl h), if_pos h, Nat.add_sub_cancel], sk_SKcl hp h h2⟩
theorem sk_SKpl {c : Nat → Int32} {T p : Nat} (hp : p < T) (h : ¬ sk_op (c p)) (h' : ¬ sk_cl (c p)) : ∀ {L : List (Nat × Nat)} {i : Nat}, (i = 0 → c p ≠ 17) → sk_SK c T p i L → sk_SK c T (p + 1) i L
  | [], _, _, _ => trivial
  | (_, k) :: t, i, z0, ⟨h1, h2⟩ => ⟨fun z => by
      rw [h1 z, sk_bhF hp (by
        intro y
        rcases y.2 with y' | y'
        · exact h' y'
        · exact z0 y.1 y'.2), if_neg h, if_neg h'], sk_SKpl hp h h' (fun y => by omega) h2⟩
theorem sk_SKs {c a : Nat → Int32} {T p : Nat} (hp : p < T) (H : sk_SK c T p 0 (sk_R c p)) (K : sk_Tk c a p) (E : sk_in c p = 0 → sk_R c p = []) : sk_SK c T (p + 1) 0 (sk_R c (p + 1)) := by
  by_cases h : sk_op (c p)
  · rw [sk_Rop h]
    exact ⟨fun _ => rfl, sk_SKop hp h H⟩
  · by_cases h2 : sk_cl (c p)
    · rw [sk_Rcl h2]
      revert H
      cases sk_R c p with
      | nil => exact fun _ => trivial
      | cons x t => exact fun H => sk_SKcl hp h2 H.2
    · by_cases h3 : c p = 17 ∨ c p = 21
      · rw [sk_Rch h3]
        revert H
        cases sk_R c p with
        | nil => exact fun _ => trivial
        | cons x t => exact fun H => ⟨fun _ => rfl, sk_SKpl hp h h2 (fun y => by omega) H.2⟩
      · by_cases h4 : c p = 26
        · rw [sk_R26 h4]; exact trivial
        · rw [sk_Rpl h h2 h3 h4]
          exact sk_SKpl hp h h2 (fun _ y => h3 (Or.inl y)) H
theorem sk_SKa {c a : Nat → Int32} {T : Nat} : ∀ {p : Nat}, p ≤ T → (∀ q, q < p → sk_Tk c a q) → sk_SK c T p 0 (sk_R c p)
  | 0, _, _ => trivial
  | p + 1, hp, h => sk_SKs (by omega) (sk_SKa (p := p) (by omega) (fun q hq => h q (by omega))) (h p (by omega)) (sk_HIa (p := p) (fun q hq => h q (by omega))).2
end
section
section
variable {yT tr ep yD yE lv yt : Int32} {c a stk em ce po yc ye : Nat → Int32}
theorem sy_opT {post : Int32 → Prop} {x : Int32} (h : sk_op x) (hp : post 1) : wpY_opens post x := by
  rcases h with h | h | h
  · exact br_t h hp
  · exact br_f (by rw [h]; decide) (br_t h hp)
  · exact br_f (by rw [h]; decide) (br_f (by rw [h]; decide) (br_t h hp))
theorem sy_opF {post : Int32 → Prop} {x : Int32} (h : ¬ sk_op x) (hp : post 0) : wpY_opens post x :=
  br_f (fun z => h (Or.inl z)) (br_f (fun z => h (Or.inr (Or.inl z))) (br_f (fun z => h (Or.inr (Or.inr z))) hp))
theorem sy_clT {post : Int32 → Prop} {x : Int32} (h : sk_cl x) (hp : post 1) : wpY_closes post x := by
  rcases h with h | h | h | h
  · exact br_t h hp
  · exact br_f (by rw [h]; decide) (br_t h hp)
  · exact br_f (by rw [h]; decide) (br_f (by rw [h]; decide) (br_t h hp))
  · exact br_f (by rw [h]; decide) (br_f (by rw [h]; decide) (br_f (by rw [h]; decide) (br_t h hp)))
theorem sy_clF {post : Int32 → Prop} {x : Int32} (h : ¬ sk_cl x) (hp : post 0) : wpY_closes post x :=
  br_f (fun z => h (Or.inl z)) (br_f (fun z => h (Or.inr (Or.inl z))) (br_f (fun z => h (Or.inr (Or.inr (Or.inl z)))) (br_f (fun z => h (Or.inr (Or.inr (Or.inr z)))) hp)))
def sy_pd : Nat → Int32
  | 0 => -1
  | q + 1 => nI q
theorem sy_pd2 (p : Nat) : nI p + (-1) = sy_pd p := by
  cases p with
  | zero => rw [nI_0]; rfl
  | succ q => exact pk_m1 q
theorem sy_pd1 (p : Nat) : nI p - 1 = sy_pd p := by
  cases p with
  | zero => rw [nI_0]; rfl
  | succ q => exact nI_pred q
def sk_fn (c : Nat → Int32) (s : Int32) : List (Nat × Nat) → Int32
  | [] => -1
  | (q, _) :: t => if s < 0 ∨ c q = s then nI q else sk_fn c s t
theorem sy_ar {s : Int32} {post : Int32 → Prop} : ∀ (p k : Nat), p ≤ 80 → k + p < 1000 → post (sk_fn c s ((sk_R c p).drop k)) → wY_around_7 post s yT tr ep yD yE lv yt c a stk em ce po yc ye (p + 1) (nI k) (sy_pd p)
  | 0, k, _, _, hp => by
    rw [sk_R, List.drop_nil] at hp
    exact br_t (by decide) hp
  | p + 1, k, h80, hk, hp => by
    refine br_f (nI_pos (n := p) (by omega)) ⟨vp_in_nI (n := p) (by omega) (by decide), ?_⟩
    show _ ∧ _
    rw [show sy_pd (p + 1) = nI p from rfl, nI_clamp (n := p) (by omega)]
    by_cases z : c p = 26
    · rw [sk_R26 z, List.drop_nil] at hp
      exact br_t z hp
    · refine br_f z ⟨vp_in_nI (n := p) (by omega) (by decide), ?_⟩
      by_cases h2 : sk_cl (c p)
      · refine sy_clT h2 (br_f (by decide) (nm_r (nI_1 k) (nm_r (sy_pd2 p) ?_)))
        refine sy_ar p (k + 1) (by omega) (by omega) ?_
        rw [sk_Rcl h2, List.drop_tail] at hp
        exact hp
      · refine sy_clF h2 (br_t rfl ⟨vp_in_nI (n := p) (by omega) (by decide), ?_⟩)
        by_cases h1 : sk_op (c p)
        · refine sy_opT h1 (br_f (by decide) ?_)
          rw [sk_Rop h1] at hp
          cases k with
          | zero =>
            have ih := sy_ar (s := s) (post := post) p 0 (by omega) (by omega)
            refine br_t nI_0 ?_
            have hp' : post (if s < 0 ∨ c p = s then nI p else sk_fn c s (sk_R c p)) := hp
            by_cases hs : s < 0
            · rw [if_pos (Or.inl hs)] at hp'
              exact br_t hs hp'
            · refine br_f hs ⟨vp_in_nI (n := p) (by omega) (by decide), ?_⟩
              by_cases hs2 : c p = s
              · rw [if_pos (Or.inr hs2)] at hp'
                exact br_t hs2 hp'
              · rw [if_neg (by intro y; exact y.elim hs hs2)] at hp'
                exact br_f hs2 (br_t (by rw [nI_0]; decide) (nm_r (sy_pd2 p) (ih hp')))
          | succ k =>
            refine br_f (nI_ne0 (by omega) (by omega)) (br_f (nI_nle (by omega) (by omega)) (nm_r (pk_m1 k) (nm_r (sy_pd2 p) ?_)))
            exact sy_ar p k (by omega) (by omega) hp
        · refine sy_opF h1 (br_t rfl (nm_r (sy_pd2 p) ?_))
          refine sy_ar p k (by omega) (by omega) ?_
          by_cases h3 : c p = 17 ∨ c p = 21
          · rw [sk_Rch h3] at hp
            revert hp
            cases sk_R c p with
            | nil => exact fun hp => hp
            | cons x t =>
              obtain ⟨q, y⟩ := x
              intro hp
              cases k with
              | zero => exact hp
              | succ k => exact hp
          · rw [sk_Rpl h1 h2 h3 z] at hp
            exact hp
theorem sy_around {s : Int32} {post : Int32 → Prop} {p : Nat} (h : p ≤ 80) (hp : post (sk_fn c s (sk_R c p))) : wpY_around post (yT, tr, ep, yD, yE, lv, yt, c, a, stk, em, ce, po, yc, ye) (nI p) s :=
  nm_r (sy_pd1 p) ⟨p + 1, by rw [← nI_0]; exact sy_ar p 0 h (by omega) hp⟩
theorem sy_so {post : Int32 → Prop} : ∀ (p k : Nat), p ≤ 80 → k + p < 1000 → (∀ q, q < p → (c q = 17 ∨ c q = 21) → sk_R c q ≠ []) → post (sk_hs c ((sk_R c p).drop k)) → wY_sort_6 post yT tr ep yD yE lv yt c a stk em ce po yc ye (p + 1) (nI k) (sy_pd p)
  | 0, k, _, _, _, hp => by
    rw [sk_R, List.drop_nil] at hp
    exact br_t (by decide) hp
  | p + 1, k, h80, hk, W, hp => by
    have V : ∀ {N : Nat}, N = 80 → vp_in (nI p) N := fun e => by rw [e]; exact vp_in_nI (n := p) (by omega) (by decide)
    refine br_f (nI_pos (n := p) (by omega)) ⟨V rfl, ?_⟩
    show _ ∧ _
    rw [show sy_pd (p + 1) = nI p from rfl, nI_clamp (n := p) (by omega)]
    by_cases z : c p = 26
    · rw [sk_R26 z, List.drop_nil] at hp
      exact br_t z hp
    · refine br_f z ⟨V rfl, ?_⟩
      have ih := fun k' => sy_so (post := post) p k' (by omega)
      have W' : ∀ q, q < p → (c q = 17 ∨ c q = 21) → sk_R c q ≠ [] := fun q hq => W q (by omega)
      by_cases h2 : sk_cl (c p)
      · refine sy_clT h2 (br_f (by decide) (nm_r (nI_1 k) (nm_r (sy_pd2 p) ?_)))
        refine ih (k + 1) (by omega) W' ?_
        rw [sk_Rcl h2, List.drop_tail] at hp
        exact hp
      · refine sy_clF h2 (br_t rfl ?_)
        by_cases h1 : sk_op (c p)
        · rw [sk_Rop h1] at hp
          cases k with
          | zero => exact br_t nI_0 ⟨V rfl, sy_opT h1 (br_f (by decide) ⟨V rfl, hp⟩)⟩
          | succ k =>
            refine br_f (nI_ne0 (by omega) (by omega)) ⟨V rfl, ?_⟩
            rw [nI_clamp (n := p) (by omega)]
            exact sy_opT h1 (br_f (by decide) (nm_r (pk_m1 k) (nm_r (sy_pd2 p) (ih k (by omega) W' hp))))
        · by_cases h3 : c p = 17 ∨ c p = 21
          · have W0 := W p (by omega) h3
            rw [sk_Rch h3] at hp
            revert hp W0
            generalize hL : sk_R c p = L
            intro hp W0
            cases L with
            | nil => exact absurd rfl W0
            | cons x t =>
              obtain ⟨q, y⟩ := x
              cases k with
              | zero =>
                refine br_t nI_0 ⟨V rfl, sy_opF h1 (br_t rfl ⟨V rfl, ?_⟩)⟩
                by_cases h17 : c p = 17
                · exact br_t h17 ⟨V rfl, hp⟩
                · have h21 : c p = 21 := h3.resolve_left h17
                  exact br_f h17 ⟨V rfl, br_t h21 ⟨V rfl, hp⟩⟩
              | succ k =>
                refine br_f (nI_ne0 (by omega) (by omega)) ⟨V rfl, ?_⟩
                rw [nI_clamp (n := p) (by omega)]
                refine sy_opF h1 (br_t rfl (nm_r (sy_pd2 p) (ih (k + 1) (by omega) W' ?_)))
                rw [hL]; exact hp
          · rw [sk_Rpl h1 h2 h3 z] at hp
            have go : wY_sort_84 post (wY_sort_6 post yT tr ep yD yE lv yt c a stk em ce po yc ye (p + 1)) (nI k) (nI p) yT tr ep yD yE lv yt c a stk em ce po yc ye := by
              refine ⟨V rfl, ?_⟩
              rw [nI_clamp (n := p) (by omega)]
              exact sy_opF h1 (br_t rfl (nm_r (sy_pd2 p) (ih k (by omega) W' hp)))
            cases k with
            | zero => exact br_t nI_0 ⟨V rfl, sy_opF h1 (br_t rfl ⟨V rfl, br_f (fun y => h3 (Or.inl y)) ⟨V rfl, br_f (fun y => h3 (Or.inr y)) go⟩⟩)⟩
            | succ k => exact br_f (nI_ne0 (by omega) (by omega)) go
theorem sy_sort {post : Int32 → Prop} {p : Nat} (h : p ≤ 80) (W : ∀ q, q < p → (c q = 17 ∨ c q = 21) → sk_R c q ≠ []) (hp : post (sk_hs c (sk_R c p))) : wpY_sort post (yT, tr, ep, yD, yE, lv, yt, c, a, stk, em, ce, po, yc, ye) (nI p) :=
  nm_r (sy_pd1 p) ⟨p + 1, by rw [← nI_0]; exact sy_so p 0 h (by omega) W hp⟩
theorem sy_a1 (x : Int32) (m : Nat) : x + 1 + nI m = x + nI (m + 1) := by
  rw [← nI_1, Int32.add_comm (nI m) 1, Int32.add_assoc]
theorem sy_a2 (x : Int32) (m : Nat) : x + (-1) + nI (m + 1) = x + nI m := by
  rw [Int32.add_assoc, Int32.add_comm (-1), pk_m1]
theorem sy_op {post : Int32 → Prop} : ∀ (p : Nat) (x : Int32), p ≤ 80 → (∀ q, q < p → sk_cl (c q) → sk_R c q ≠ []) → post (x + nI (sk_R c p).length) → wY_openParts_6 post yT tr ep yD yE lv yt c a stk em ce po yc ye (p + 1) x (sy_pd p)
  | 0, x, _, _, hp => by
    have hp : post (x + nI 0) := hp
    rw [nI_0, Int32.add_zero] at hp
    exact br_t (by decide) hp
  | p + 1, x, h80, W, hp => by
    have V : ∀ {N : Nat}, N = 80 → vp_in (nI p) N := fun e => by rw [e]; exact vp_in_nI (n := p) (by omega) (by decide)
    refine br_f (nI_pos (n := p) (by omega)) ⟨V rfl, ?_⟩
    show _ ∧ _
    rw [show sy_pd (p + 1) = nI p from rfl, nI_clamp (n := p) (by omega)]
    by_cases z : c p = 26
    · rw [sk_R26 z] at hp
      have hp : post (x + nI 0) := hp
      rw [nI_0, Int32.add_zero] at hp
      exact br_t z hp
    · refine br_f z ⟨V rfl, ?_⟩
      have ih := fun x' => sy_op (post := post) p x' (by omega) (fun q hq => W q (by omega))
      by_cases h1 : sk_op (c p)
      · rw [sk_Rop h1, List.length_cons, ← sy_a1] at hp
        refine sy_opT h1 (br_f (by decide) (nm_e ⟨V rfl, ?_⟩))
        rw [nI_clamp (n := p) (by omega)]
        exact sy_clF (fun y => sk_opcl y h1) (br_t rfl (nm_r (sy_pd2 p) (ih (x + 1) hp)))
      · refine sy_opF h1 (br_t rfl ⟨V rfl, ?_⟩)
        rw [nI_clamp (n := p) (by omega)]
        by_cases h2 : sk_cl (c p)
        · refine sy_clT h2 (br_f (by decide) (nm_e (nm_r (sy_pd2 p) (ih (x + (-1)) ?_))))
          have W0 := W p (by omega) h2
          rw [sk_Rcl h2] at hp
          revert hp W0
          cases sk_R c p with
          | nil => exact fun _ y => absurd rfl y
          | cons y t =>
            intro hp _
            rw [List.length_cons, sy_a2]; exact hp
        · refine sy_clF h2 (br_t rfl (nm_r (sy_pd2 p) (ih x ?_)))
          by_cases h3 : c p = 17 ∨ c p = 21
          · rw [sk_Rch h3] at hp
            revert hp
            cases sk_R c p with
            | nil => exact fun hp => hp
            | cons y t => exact fun hp => hp
          · rw [sk_Rpl h1 h2 h3 z] at hp
            exact hp
theorem sy_openParts {post : Int32 → Prop} {p : Nat} (h : p ≤ 80) (W : ∀ q, q < p → sk_cl (c q) → sk_R c q ≠ []) (hp : post (nI (sk_R c p).length)) : wpY_openParts post (yT, tr, ep, yD, yE, lv, yt, c, a, stk, em, ce, po, yc, ye) (nI p) :=
  nm_r (sy_pd1 p) ⟨p + 1, sy_op p 0 h W (by rw [Int32.zero_add]; exact hp)⟩
end
end
section
section
variable {yT tr ep yD yE lv yt : Int32} {c a stk em ce po yc ye : Nat → Int32}
theorem sy_bl {e : Bool} {x : Int32} {post : Int32 → Prop} {T : Nat} (hT : T ≤ 80) (he : x = 0 ↔ e = false) : ∀ (f q k : Nat), f + q = T → 1 ≤ q → k + f < 1000 → post (nI (sk_bh c e f q k)) → wY_behind_7 post x (nI T) tr ep yD yE lv yt c a stk em ce po yc ye (f + 1) (nI k) (nI q)
  | 0, q, k, hq, h1, _, hp => by
    obtain ⟨t, rfl⟩ : ∃ t, q = t + 1 := ⟨q - 1, by omega⟩
    have e1 : T = t + 1 := by omega
    subst e1
    refine br_t (nI_le (Nat.le_refl _) (by omega)) ?_
    rw [nI_pred]
    exact hp
  | f + 1, q, k, hq, h1, hk, hp => by
    have V : ∀ {N : Nat}, N = 80 → vp_in (nI q) N := fun e => by rw [e]; exact vp_in_nI (n := q) (by omega) (by decide)
    refine br_f (nI_ge (by omega) (by omega)) ?_
    have go : ¬ (k = 0 ∧ (sk_cl (c q) ∨ (e = true ∧ c q = 17))) → wY_behind_52 post (wY_behind_7 post x (nI T) tr ep yD yE lv yt c a stk em ce po yc ye (f + 1)) x (nI k) (nI q) (nI T) tr ep yD yE lv yt c a stk em ce po yc ye := by
      intro hm
      rw [sk_bh, if_neg hm] at hp
      refine ⟨V rfl, ?_⟩
      rw [nI_clamp (n := q) (by omega)]
      by_cases h1' : sk_op (c q)
      · rw [if_pos h1'] at hp
        refine sy_opT h1' (br_f (by decide) (nm_r (nI_1 k) ⟨V rfl, ?_⟩))
        rw [nI_clamp (n := q) (by omega)]
        exact sy_clF (fun y => sk_opcl y h1') (br_t rfl (nm_r (nI_1 q) (sy_bl hT he f (q + 1) (k + 1) (by omega) (by omega) (by omega) hp)))
      · rw [if_neg h1'] at hp
        refine sy_opF h1' (br_t rfl ⟨V rfl, ?_⟩)
        rw [nI_clamp (n := q) (by omega)]
        by_cases h2 : sk_cl (c q)
        · rw [if_pos h2] at hp
          cases k with
          | zero => exact absurd ⟨rfl, Or.inl h2⟩ hm
          | succ k => exact sy_clT h2 (br_f (by decide) (nm_r (pk_m1 k) (nm_r (nI_1 q) (sy_bl hT he f (q + 1) k (by omega) (by omega) (by omega) hp))))
        · rw [if_neg h2] at hp
          exact sy_clF h2 (br_t rfl (nm_r (nI_1 q) (sy_bl hT he f (q + 1) k (by omega) (by omega) (by omega) hp)))
    cases k with
    | succ k => exact br_f (nI_ne0 (by omega) (by omega)) (go (fun y => by omega))
    | zero =>
      refine br_t nI_0 ⟨V rfl, ?_⟩
      rw [nI_clamp (n := q) (by omega)]
      by_cases h2 : sk_cl (c q)
      · rw [sk_bh, if_pos ⟨rfl, Or.inl h2⟩] at hp
        exact sy_clT h2 (br_f (by decide) hp)
      · refine sy_clF h2 (br_t rfl ?_)
        cases e with
        | false => exact br_t (he.mpr rfl) (go (fun y => y.2.elim h2 (fun w => absurd w.1 (by decide))))
        | true =>
          refine br_f (fun y => absurd (he.mp y) (by decide)) ⟨V rfl, ?_⟩
          by_cases h17 : c q = 17
          · rw [sk_bh, if_pos ⟨rfl, Or.inr ⟨rfl, h17⟩⟩] at hp
            exact br_t h17 hp
          · exact br_f h17 (go (fun y => y.2.elim h2 (fun w => h17 w.2)))
theorem sy_behind {e : Bool} {x : Int32} {post : Int32 → Prop} {T p : Nat} (hT : T ≤ 80) (hp : p < T) (he : x = 0 ↔ e = false) (h : post (nI (sk_bh c e (T - (p + 1)) (p + 1) 0))) : wpY_behind post (nI T, tr, ep, yD, yE, lv, yt, c, a, stk, em, ce, po, yc, ye) (nI p) x :=
  nm_r (nI_1 p) ⟨T - (p + 1) + 1, by rw [← nI_0]; exact sy_bl hT he (T - (p + 1)) (p + 1) 0 (by omega) (by omega) (by omega) h⟩
theorem sy_dl {post : Int32 → Prop} {x : Int32} {b : Nat} (hb : b ≤ 80) : ∀ (n i r : Nat), i ≤ r → r ≤ b → b < n + i → (∀ q, i ≤ q → q < r → ¬ sk_df c a q x) → ((r < b ∧ sk_df c a r x ∧ post (nI r)) ∨ (r = b ∧ post (-1))) → wY_definition_2 post x (nI b) yT tr ep yD yE lv yt c a stk em ce po yc ye n (nI i)
  | 0, i, r, h1, h2, h3, _, _ => by omega
  | n + 1, i, r, h1, h2, h3, hn, hr => by
    have V : i < b → ∀ {N : Nat}, N = 80 → vp_in (nI i) N := fun w _ e => by rw [e]; exact vp_in_nI (n := i) (by omega) (by decide)
    by_cases hi : i = b
    · refine br_t (nI_le (by omega) (by omega)) ?_
      rcases hr with hr | hr
      · omega
      · exact hr.2
    · have W : ∀ {N : Nat}, N = 80 → vp_in (nI i) N := V (by omega)
      refine br_f (nI_ge (by omega) (by omega)) ⟨W rfl, ?_⟩
      rw [nI_clamp (n := i) (by omega)]
      by_cases hir : i = r
      · subst hir
        rcases hr with hr | hr
        · obtain ⟨hr1, ⟨hr2, hr4⟩, hr3⟩ := hr
          have go : wY_definition_29 post (wY_definition_2 post x (nI b) yT tr ep yD yE lv yt c a stk em ce po yc ye n) x (nI b) (nI i) yT tr ep yD yE lv yt c a stk em ce po yc ye := by
            refine ⟨W rfl, ?_⟩
            rw [nI_clamp (n := i) (by omega)]
            exact br_t hr4 hr3
          by_cases h26 : c i = 26
          · exact br_t h26 go
          · exact br_f h26 ⟨W rfl, br_t (hr2.resolve_left h26) go⟩
        · omega
      · have nx : wY_definition_2 post x (nI b) yT tr ep yD yE lv yt c a stk em ce po yc ye n (nI (i + 1)) := sy_dl hb n (i + 1) r (by omega) h2 (by omega) (fun q hq => hn q (by omega)) hr
        have hd := hn i (Nat.le_refl _) (by omega)
        have go : (c i = 26 ∨ c i = 28) → wY_definition_29 post (wY_definition_2 post x (nI b) yT tr ep yD yE lv yt c a stk em ce po yc ye n) x (nI b) (nI i) yT tr ep yD yE lv yt c a stk em ce po yc ye := by
          intro y
          refine ⟨W rfl, ?_⟩
          rw [nI_clamp (n := i) (by omega)]
          exact br_f (fun w => hd ⟨y, w⟩) (nm_r (nI_1 i) nx)
        by_cases h26 : c i = 26
        · exact br_t h26 (go (Or.inl h26))
        · refine br_f h26 ⟨W rfl, ?_⟩
          by_cases h28 : c i = 28
          · exact br_t h28 (go (Or.inr h28))
          · exact br_f h28 (nm_r (nI_1 i) nx)
theorem sy_dfS {post : Int32 → Prop} {x : Int32} {b r : Nat} (hb : b ≤ 80) (hr : r < b) (hd : sk_df c a r x) (hn : ∀ q, q < r → ¬ sk_df c a q x) (hp : post (nI r)) : wpY_definition post (yT, tr, ep, yD, yE, lv, yt, c, a, stk, em, ce, po, yc, ye) x (nI b) :=
  ⟨b + 1, by rw [← nI_0]; exact sy_dl hb (b + 1) 0 r (by omega) (by omega) (by omega) (fun q _ => hn q) (Or.inl ⟨hr, hd, hp⟩)⟩
theorem sy_dfN {post : Int32 → Prop} {x : Int32} {b : Nat} (hb : b ≤ 80) (hn : ∀ q, q < b → ¬ sk_df c a q x) (hp : post (-1)) : wpY_definition post (yT, tr, ep, yD, yE, lv, yt, c, a, stk, em, ce, po, yc, ye) x (nI b) :=
  ⟨b + 1, by rw [← nI_0]; exact sy_dl hb (b + 1) 0 b (by omega) (by omega) (by omega) (fun q _ => hn q) (Or.inr ⟨rfl, hp⟩)⟩
theorem sk_vsle (c : Nat → Int32) : ∀ p, sk_vs c p ≤ p
  | 0 => Nat.le_refl _
  | p + 1 => by
    have := sk_vsle c p
    rw [sk_vs]
    split <;> omega
theorem sy_vl {post : Int32 → Prop} {b : Nat} (hb : b ≤ 80) (hp : post (nI (sk_vs c b))) : ∀ (n i : Nat), i ≤ b → b < n + i → wY_variables_4 post (nI b) yT tr ep yD yE lv yt c a stk em ce po yc ye n (nI (sk_vs c i)) (nI i)
  | 0, i, h1, h2 => by omega
  | n + 1, i, h1, h2 => by
    by_cases hi : i = b
    · subst hi
      exact br_t (nI_le (by omega) (by omega)) hp
    · refine br_f (nI_ge (by omega) (by omega)) ⟨vp_in_nI (n := i) (by omega) (by decide), ?_⟩
      rw [nI_clamp (n := i) (by omega)]
      have ih := sy_vl hb hp n (i + 1) (by omega) (by omega)
      rw [sk_vs] at ih
      by_cases h : c i = 28
      · rw [if_pos h] at ih
        exact br_t h (nm_r (nI_1 _) (nm_r (nI_1 i) ih))
      · rw [if_neg h] at ih
        exact br_f h (nm_r (nI_1 i) ih)
theorem sy_vars {post : Int32 → Prop} {b : Nat} (hb : b ≤ 80) (hp : post (nI (sk_vs c b))) : wpY_variables post (yT, tr, ep, yD, yE, lv, yt, c, a, stk, em, ce, po, yc, ye) (nI b) :=
  ⟨b + 1, by rw [← nI_0]; exact sy_vl hb hp (b + 1) 0 (by omega) (by omega)⟩
theorem sy_nmT {post : Int32 → Prop} {x : Int32} (h : sk_nm x) (hp : post 1) : wpY_isName post x := br_f h.1 (br_f h.2 hp)
theorem sy_nmF {post : Int32 → Prop} {x : Int32} (h : ¬ sk_nm x) (hp : post 0) : wpY_isName post x := by
  by_cases h1 : x < 0
  · exact br_t h1 hp
  · exact br_f h1 (br_t (Classical.byContradiction (fun y => h ⟨h1, y⟩)) hp)
theorem sy_top {post : Int32 → Prop} {D j : Nat} (hD : D ≤ 16) (hj : j < D) (hp : post (stk (D - 1 - j))) : wpY_top post (yT, tr, ep, nI D, yE, lv, yt, c, a, stk, em, ce, po, yc, ye) (nI j) := by
  refine br_f (nI_pos (by omega)) (br_t (nI_lt hj (by omega)) ?_)
  obtain ⟨d, rfl⟩ : ∃ d, D = d + 1 := ⟨D - 1, by omega⟩
  rw [nI_pred, pk_sub (by omega), nI_clamp (n := d - j) (by omega)]
  exact ⟨vp_in_nI (by omega) (by decide), hp⟩
theorem sy_top0 {post : Int32 → Prop} {D j : Nat} (hD : D ≤ 16) (hj : D ≤ j) (hjj : j < 100) (hp : post 0) : wpY_top post (yT, tr, ep, nI D, yE, lv, yt, c, a, stk, em, ce, po, yc, ye) (nI j) :=
  br_f (nI_pos (by omega)) (br_f (nI_nlt hj (by omega)) hp)
theorem sy_push {post : Int32 → SY → Prop} {D : Nat} {x : Int32} (hD : D < 16) (hp : post (nI (D + 1)) (yT, tr, ep, nI (D + 1), yE, lv, yt, c, a, upd stk D x, em, ce, po, yc, ye)) : wpY_push post (yT, tr, ep, nI D, yE, lv, yt, c, a, stk, em, ce, po, yc, ye) x := by
  refine br_f (fun y => ?_) ⟨vp_in_nI (n := D) (by omega) (by decide), ?_⟩
  · have := (nI_eq (a := D) (b := 16) (by omega) (by omega)).mp y
    omega
  · rw [nI_clamp (n := D) (by omega)]
    exact nm_e (nm_r (nI_1 D) hp)
theorem sy_dp {post : SY → Prop} {D j : Nat} (hD : D ≤ 16) (hj : j ≤ D) (hp : post (yT, tr, ep, nI (D - j), yE, lv, yt, c, a, stk, em, ce, po, yc, ye)) : ∀ (n i : Nat), i ≤ j → j < n + i → wY_drop_2 post (nI j) yT tr ep yE lv yt c a stk em ce po yc ye n (nI i) (nI (D - i))
  | 0, i, h1, h2 => by omega
  | n + 1, i, h1, h2 => by
    by_cases hi : i = j
    · subst hi
      exact br_t (nI_le (by omega) (by omega)) hp
    · refine br_f (nI_ge (by omega) (by omega)) (br_f (nI_nle (by omega) (by omega)) (nm_r ?_ (nm_r (nI_1 i) (sy_dp hD hj hp n (i + 1) (by omega) (by omega)))))
      obtain ⟨d, hd⟩ : ∃ d, D - i = d + 1 := ⟨D - i - 1, by omega⟩
      rw [hd, nI_pred]
      exact congrArg nI (by omega)
theorem sy_drop {post : SY → Prop} {D j : Nat} (hD : D ≤ 16) (hj : j ≤ D) (hp : post (yT, tr, ep, nI (D - j), yE, lv, yt, c, a, stk, em, ce, po, yc, ye)) : wpY_drop post (yT, tr, ep, nI D, yE, lv, yt, c, a, stk, em, ce, po, yc, ye) (nI j) :=
  ⟨j + 1, by rw [← nI_0]; exact sy_dp hD hj hp (j + 1) 0 (by omega) (by omega)⟩
end
end
section
section
variable {xT tr ep ind vc pc xD xE cur tu ca : Int32} {c a nm nv ps pst psk jm cp stk em ce rp ct cm : Nat → Int32}
def sk_LA (c ps pst psk : Nat → Int32) : List (Nat × Nat) → Prop
  | [] => True
  | (q, k) :: t => (ps t.length = c k ∧ pst t.length = nI q ∧ psk t.length = nI k) ∧ sk_LA c ps pst psk t
theorem sk_LAu {c : Nat → Int32} {m : Nat} {x y z : Int32} : ∀ {L : List (Nat × Nat)}, L.length ≤ m → sk_LA c ps pst psk L → sk_LA c (upd ps m x) (upd pst m y) (upd psk m z) L
  | [], _, _ => trivial
  | (_, _) :: t, hm, ⟨⟨h1, h2, h3⟩, h4⟩ => by
    rw [List.length_cons] at hm
    exact ⟨⟨by rw [pk_un (by omega)]; exact h1, by rw [pk_un (by omega)]; exact h2, by rw [pk_un (by omega)]; exact h3⟩, sk_LAu (by omega) h4⟩
theorem sk_LAv {c : Nat → Int32} {m : Nat} {x z : Int32} : ∀ {L : List (Nat × Nat)}, L.length ≤ m → sk_LA c ps pst psk L → sk_LA c (upd ps m x) pst (upd psk m z) L
  | [], _, _ => trivial
  | (_, _) :: t, hm, ⟨⟨h1, h2, h3⟩, h4⟩ => by
    rw [List.length_cons] at hm
    exact ⟨⟨by rw [pk_un (by omega)]; exact h1, h2, by rw [pk_un (by omega)]; exact h3⟩, sk_LAv (by omega) h4⟩
def sk_ti (c : Nat → Int32) : List (Nat × Nat) → Int32
  | [] => -1
  | (_, k) :: t => if c k = 23 then nI t.length else sk_ti c t
theorem sx_il {post : Int32 → Prop} : ∀ (L : List (Nat × Nat)), L.length ≤ 6 → sk_LA c ps pst psk L → post (sk_ti c L) → wX_innermostTimes_7 post xT tr ep ind vc pc xD xE cur tu ca c a nm nv ps pst psk jm cp stk em ce rp ct cm (L.length + 1) (sy_pd L.length)
  | [], _, _, hp => br_t (by decide) hp
  | (q, k) :: t, h6, ⟨⟨h1, _, _⟩, h4⟩, hp => by
    rw [List.length_cons] at h6
    refine br_f (nI_pos (n := t.length) (by omega)) ⟨vp_in_nI (n := t.length) (by omega) (by decide), ?_⟩
    rw [show sy_pd (List.length ((q, k) :: t)) = nI t.length from rfl, nI_clamp (n := t.length) (by omega), h1]
    rw [sk_ti] at hp
    by_cases h : c k = 23
    · rw [if_pos h] at hp
      exact br_t h hp
    · rw [if_neg h] at hp
      exact br_f h (nm_r (sy_pd2 _) (sx_il t (by omega) h4 hp))
theorem sx_inner {post : Int32 → Prop} {L : List (Nat × Nat)} (h6 : L.length ≤ 6) (h : sk_LA c ps pst psk L) (hp : post (sk_ti c L)) : wpX_innermostTimes post (xT, tr, ep, ind, vc, nI L.length, xD, xE, cur, tu, ca, c, a, nm, nv, ps, pst, psk, jm, cp, stk, em, ce, rp, ct, cm) :=
  nm_r (sy_pd1 _) ⟨L.length + 1, sx_il L h6 h hp⟩
theorem sx_last {post : Int32 → Prop} {x : Int32} : ∀ {L : List (Nat × Nat)} (_ : L.length ≤ 6) (_ : sk_LA c ps pst psk L) (_ : wX_fitsOpenParts_22 post x (sk_hs c L) xT tr ep ind vc (nI L.length) xD xE cur tu ca c a nm nv ps pst psk jm cp stk em ce rp ct cm), wpX_fitsOpenParts post (xT, tr, ep, ind, vc, nI L.length, xD, xE, cur, tu, ca, c, a, nm, nv, ps, pst, psk, jm, cp, stk, em, ce, rp, ct, cm) x
  | [], _, _, hp => br_t nI_0 hp
  | (q, k) :: t, h6, ⟨⟨h1, _, _⟩, _⟩, hp => by
    rw [List.length_cons] at h6
    refine br_f (nI_ne0 (n := t.length + 1) (by omega) (by omega)) ?_
    rw [show nI (List.length ((q, k) :: t)) - 1 = nI t.length from nI_pred _, nI_clamp (n := t.length) (by omega), h1]
    exact ⟨vp_in_nI (n := t.length) (by omega) (by decide), hp⟩
theorem sx_12 (x : Int32) : 12 ≤ x ↔ 11 < x := by
  rw [Int32.le_iff_toInt_le, Int32.lt_iff_toInt_lt, show (12 : Int32).toInt = 12 from by decide, show (11 : Int32).toInt = 11 from by decide]
  omega
theorem sx_nmT {post : Int32 → Prop} {x : Int32} (h : sk_nm x) (hp : post 1) : wpX_isName post (xT, tr, ep, ind, vc, pc, xD, xE, cur, tu, ca, c, a, nm, nv, ps, pst, psk, jm, cp, stk, em, ce, rp, ct, cm) x := br_f h.1 (br_f (fun y => h.2 ((sx_12 x).mp y)) hp)
theorem sx_nmF {post : Int32 → Prop} {x : Int32} (h : ¬ sk_nm x) (hp : post 0) : wpX_isName post (xT, tr, ep, ind, vc, pc, xD, xE, cur, tu, ca, c, a, nm, nv, ps, pst, psk, jm, cp, stk, em, ce, rp, ct, cm) x := by
  by_cases h1 : x < 0
  · exact br_t h1 hp
  · exact br_f h1 (br_t ((sx_12 x).mpr (Classical.byContradiction (fun y => h ⟨h1, y⟩))) hp)
theorem sk_nmI {x : Int32} (h : sk_nm x) : ∃ n, n < 12 ∧ x = nI n := by
  obtain ⟨j, hj, e⟩ := nI_of2 (M := 11) (n := 11) (by decide) h.1 (Int32.not_lt.mp h.2)
  exact ⟨j, by omega, e⟩
theorem sk_nmN {n : Nat} (h : n < 12) : sk_nm (nI n) := ⟨nI_pos (by omega), nI_nlt (b := n) (a := 11) (by omega) (by omega)⟩
def sk_z (f : Nat → Int32) : Nat → Nat → Int32
  | 0 => f
  | n + 1 => upd (sk_z f n) n 0
theorem sk_z0 (f : Nat → Int32) {j : Nat} : ∀ n, j < n → sk_z f n j = 0
  | 0, h => by omega
  | n + 1, h => by
    rw [sk_z]
    by_cases e : j = n
    · subst e; exact pk_us
    · rw [pk_un e]; exact sk_z0 f n (by omega)
theorem sx_sl {post : SX → Prop} (hp : post (xT, tr, ep, ind, vc, pc, xD, xE, cur, tu, ca, c, a, sk_z nm 12, nv, ps, pst, psk, jm, cp, stk, em, ce, rp, ct, cm)) : ∀ (n i : Nat), i ≤ 12 → 12 < n + i → wX_startTranslation_22 post xT tr ep ind vc pc xD xE cur tu ca n (nI i) c a (sk_z nm i) nv ps pst psk jm cp stk em ce rp ct cm
  | 0, i, h1, h2 => by omega
  | n + 1, i, h1, h2 => by
    by_cases hi : i = 12
    · subst hi
      exact br_t (nI_le (b := 12) (a := 12) (by omega) (by omega)) hp
    · refine br_f (nI_ge (b := 12) (by omega) (by omega)) ⟨vp_in_nI (n := i) (by omega) (by decide), ?_⟩
      rw [nI_clamp (n := i) (by omega)]
      exact nm_e (nm_r (nI_1 i) (sx_sl hp n (i + 1) (by omega) (by omega)))
theorem sx_start {post : SX → Prop} (hp : post (xT, 0, ep, 0, 0, 0, xD, xE, cur, tu, ca, c, a, sk_z nm 12, nv, ps, pst, psk, jm, cp, stk, em, ce, rp, ct, cm)) : wpX_startTranslation post (xT, tr, ep, ind, vc, pc, xD, xE, cur, tu, ca, c, a, nm, nv, ps, pst, psk, jm, cp, stk, em, ce, rp, ct, cm) :=
  ⟨13, by
    have := sx_sl hp 13 0 (by omega) (by omega)
    rw [nI_0] at this
    exact this⟩
theorem sx_rl {post : SX → Prop} (hp : post (xT, tr, ep, ind, vc, pc, xD, xE, cur, tu, ca, c, a, nm, nv, ps, pst, psk, jm, cp, stk, em, sk_z ce 12, rp, ct, cm)) : ∀ (n i : Nat), i ≤ 12 → 12 < n + i → wX_resetMachine_12 post xT tr ep ind vc pc xD xE cur tu ca n (nI i) c a nm nv ps pst psk jm cp stk em (sk_z ce i) rp ct cm
  | 0, i, h1, h2 => by omega
  | n + 1, i, h1, h2 => by
    by_cases hi : i = 12
    · subst hi
      exact br_t (nI_le (b := 12) (a := 12) (by omega) (by omega)) hp
    · refine br_f (nI_ge (b := 12) (by omega) (by omega)) ⟨vp_in_nI (n := i) (by omega) (by decide), ?_⟩
      rw [nI_clamp (n := i) (by omega)]
      exact nm_e (nm_r (nI_1 i) (sx_rl hp n (i + 1) (by omega) (by omega)))
theorem sx_reset {post : SX → Prop} (hp : post (xT, tr, ep, ind, vc, pc, 0, 0, cur, tu, ca, c, a, nm, nv, ps, pst, psk, jm, cp, stk, em, sk_z ce 12, rp, ct, cm)) : wpX_resetMachine post (xT, tr, ep, ind, vc, pc, xD, xE, cur, tu, ca, c, a, nm, nv, ps, pst, psk, jm, cp, stk, em, ce, rp, ct, cm) :=
  ⟨13, by
    have := sx_rl hp 13 0 (by omega) (by omega)
    rw [nI_0] at this
    exact this⟩
end
section
variable {yT tr ep yD yE lv yt : Int32} {c a stk em ce po yc ye : Nat → Int32}
theorem sy_rl {post : Int32 → SY → Prop} (hp : post 0 (yT, tr, ep, yD, yE, lv, yt, c, a, stk, em, sk_z ce 12, po, yc, ye)) : ∀ (n i : Nat), i ≤ 12 → 12 < n + i → wY_translate_157 post yT tr ep yD yE lv yt n (nI i) c a stk em (sk_z ce i) po yc ye
  | 0, i, h1, h2 => by omega
  | n + 1, i, h1, h2 => by
    by_cases hi : i = 12
    · subst hi
      exact br_t (nI_le (b := 12) (a := 12) (by omega) (by omega)) hp
    · refine br_f (nI_ge (b := 12) (by omega) (by omega)) ⟨vp_in_nI (n := i) (by omega) (by decide), ?_⟩
      rw [nI_clamp (n := i) (by omega)]
      exact nm_e (nm_r (nI_1 i) (sy_rl hp n (i + 1) (by omega) (by omega)))
end
theorem sk_Rk (c : Nat → Int32) : ∀ (p : Nat) (x : Nat × Nat), x ∈ sk_R c p → sk_op (c x.2) ∨ c x.2 = 17 ∨ c x.2 = 21
  | 0, x, h => by cases h
  | p + 1, x, h => by
    have ih := sk_Rk c p x
    by_cases h1 : sk_op (c p)
    · rw [sk_Rop h1] at h
      rcases List.mem_cons.mp h with h | h
      · subst h; exact Or.inl h1
      · exact ih h
    · by_cases h2 : sk_cl (c p)
      · rw [sk_Rcl h2] at h
        exact ih (List.mem_of_mem_tail h)
      · by_cases h3 : c p = 17 ∨ c p = 21
        · rw [sk_Rch h3] at h
          revert h ih
          cases sk_R c p with
          | nil => exact fun h ih => ih h
          | cons y t =>
            intro h ih
            rcases List.mem_cons.mp h with h | h
            · subst h; exact Or.inr h3
            · exact ih (List.mem_cons_of_mem _ h)
        · by_cases h4 : c p = 26
          · rw [sk_R26 h4] at h
            cases h
          · rw [sk_Rpl h1 h2 h3 h4] at h
            exact ih h
theorem sk_hsN {c : Nat → Int32} {p : Nat} (h : sk_R c p ≠ []) : ¬ sk_hs c (sk_R c p) < 0 ∧ ¬ sk_hs c (sk_R c p) = -1 := by
  have k := sk_Rk c p
  revert h k
  cases sk_R c p with
  | nil => exact fun h => absurd rfl h
  | cons x t =>
    intro _ k
    have := k x (List.mem_cons_self ..)
    show ¬ c x.2 < 0 ∧ ¬ c x.2 = -1
    rcases this with (h | h | h) | h | h <;> rw [h] <;> decide
theorem sk_hs0 {c : Nat → Int32} {L : List (Nat × Nat)} {x : Int32} (h : sk_hs c L = x) (hx : x ≠ -1) : L ≠ [] := by
  intro e
  subst e
  exact hx h.symm
theorem sk_tmS {c : Nat → Int32} {p : Nat} : ∀ {L : List (Nat × Nat)}, sk_HI c p L → (sk_tm c L = [] ∧ sk_ti c L = -1 ∧ sk_fn c 23 L = -1) ∨ (∃ q k t, sk_tm c L = (q, k) :: t ∧ sk_ti c L = nI t.length ∧ sk_fn c 23 L = nI q ∧ (q, k) ∈ L ∧ c q = 23 ∧ sk_R c q = t ∧ t.length < L.length)
  | [], _ => Or.inl ⟨rfl, rfl, rfl⟩
  | (q, k) :: t, ⟨h1, _, _, _, _, _, _, h8, h9⟩ => by
    by_cases h : c k = 23
    · refine Or.inr ⟨q, k, t, ?_, ?_, ?_, List.mem_cons_self .., h8.mp h, h1, by rw [List.length_cons]; omega⟩
      · rw [sk_tm, if_pos h]
      · rw [sk_ti, if_pos h]
      · rw [sk_fn, if_pos (Or.inr (h8.mp h))]
    · have e1 : sk_tm c ((q, k) :: t) = sk_tm c t := by rw [sk_tm, if_neg h]
      have e2 : sk_ti c ((q, k) :: t) = sk_ti c t := by rw [sk_ti, if_neg h]
      have e3 : sk_fn c 23 ((q, k) :: t) = sk_fn c 23 t := by
        rw [sk_fn, if_neg]
        intro y
        rcases y with y | y
        · exact absurd y (by decide)
        · exact h (h8.mpr y)
      rw [e1, e2, e3]
      rcases sk_tmS h9 with z | ⟨q', k', t', z1, z2, z3, z4, z5, z6, z7⟩
      · exact Or.inl z
      · exact Or.inr ⟨q', k', t', z1, z2, z3, List.mem_cons_of_mem _ z4, z5, z6, by rw [List.length_cons]; omega⟩
end
section
theorem sk_HIlt {c : Nat → Int32} {p : Nat} {x : Nat × Nat} : ∀ {L : List (Nat × Nat)}, sk_HI c p L → x ∈ L → x.1 < p
  | [], _, h => by cases h
  | (q, k) :: t, ⟨_, h2, _, _, _, _, _, _, h9⟩, h => by
    rcases List.mem_cons.mp h with h | h
    · subst h; exact h2
    · exact sk_HIlt h9 h
section
variable {xT tr ep ind vc pc xD xE cur tu ca yT yD yE lv yt : Int32} {c a nm nv ps pst psk jm cp stk em ce rp ct cm po yc ye : Nat → Int32}
variable {ytr : Int32}
theorem sk_nm1 {n : Nat} (h : n < 2 ^ 31) : ¬ nI n = -1 := fun y => nI_pos h (by rw [y]; decide)
theorem se_15 {p : Nat} (hp : p < 80) (h6 : (sk_R c p).length ≤ 6) (hL : sk_LA c ps pst psk (sk_R c p)) (hH : sk_HI c p (sk_R c p)) (W1 : ∀ q, q < p → (c q = 17 ∨ c q = 21) → sk_R c q ≠ []) (W2 : ∀ q, q < p → sk_cl (c q) → sk_R c q ≠ []) (hc : c p = 15) : ∃ e : Int32, (∀ post : Int32 → Prop, post e → wpX_errorInside post (xT, tr, ep, ind, vc, nI (sk_R c p).length, xD, xE, cur, tu, ca, c, a, nm, nv, ps, pst, psk, jm, cp, stk, em, ce, rp, ct, cm) (nI p)) ∧ (∀ post : Int32 → Prop, post e → wpY_inside post (yT, ytr, ep, yD, yE, lv, yt, c, a, stk, em, ce, po, yc, ye) (nI p)) ∧ (e = 0 → sk_Ok c a p) := by
  have e : c (nI p).toNatClampNeg = 15 := by rw [nI_clamp (n := p) (by omega)]; exact hc
  have e2 : a (nI p).toNatClampNeg = a p := by rw [nI_clamp (n := p) (by omega)]
  by_cases h : sk_nm (a p)
  · refine ⟨0, ?_, ?_, ?_⟩
    · intro post hpost
      exact ⟨vp_in_nI (n := p) hp (by decide), nm_r e (br_f (by decide) (br_f (by decide) (br_t rfl (⟨vp_in_nI (n := p) hp (by decide), by rw [e2]; exact sx_nmT h (br_f (by decide) hpost)⟩))))⟩
    · intro post hpost
      exact ⟨vp_in_nI (n := p) hp (by decide), nm_r e (sy_sort (Nat.le_of_lt hp) W1 (br_f (by decide) (br_f (by decide) (br_f (by decide) (br_t rfl (⟨vp_in_nI (n := p) hp (by decide), by rw [e2]; exact sy_nmT h (br_f (by decide) (br_f (by decide) (br_f (by decide) (br_f (by decide) (br_f (by decide) (br_f (by decide) (br_f (by decide) (br_f (by decide) (br_f (by decide) (sy_opF (by decide) (br_t rfl hpost)))))))))))⟩))))))⟩
    · exact fun _ => ⟨⟨by rw [hc]; decide, by rw [hc]; decide, by rw [hc]; decide⟩, (fun _ => h), (fun y => by rw [hc] at y; exact absurd y (by decide)), (fun y => absurd (hc.symm.trans y) (by decide)), (fun y => absurd (hc.symm.trans y) (by decide)), (fun y => absurd (hc.symm.trans y) (by decide)), (fun y => absurd (hc.symm.trans y) (by decide)), (fun y => absurd (hc.symm.trans y) (by decide)), (fun y => absurd (hc.symm.trans y) (by decide)), (fun y => absurd (hc.symm.trans y) (by decide)), (fun y => absurd (hc.symm.trans y) (by decide))⟩
  · refine ⟨2, ?_, ?_, ?_⟩
    · intro post hpost
      exact ⟨vp_in_nI (n := p) hp (by decide), nm_r e (br_f (by decide) (br_f (by decide) (br_t rfl (⟨vp_in_nI (n := p) hp (by decide), by rw [e2]; exact sx_nmF h (br_t rfl hpost)⟩))))⟩
    · intro post hpost
      exact ⟨vp_in_nI (n := p) hp (by decide), nm_r e (sy_sort (Nat.le_of_lt hp) W1 (br_f (by decide) (br_f (by decide) (br_f (by decide) (br_t rfl (⟨vp_in_nI (n := p) hp (by decide), by rw [e2]; exact sy_nmF h (br_t rfl hpost)⟩))))))⟩
    · exact fun y => absurd y (by decide)
theorem se_16 {p : Nat} (hp : p < 80) (h6 : (sk_R c p).length ≤ 6) (hL : sk_LA c ps pst psk (sk_R c p)) (hH : sk_HI c p (sk_R c p)) (W1 : ∀ q, q < p → (c q = 17 ∨ c q = 21) → sk_R c q ≠ []) (W2 : ∀ q, q < p → sk_cl (c q) → sk_R c q ≠ []) (hc : c p = 16) : ∃ e : Int32, (∀ post : Int32 → Prop, post e → wpX_errorInside post (xT, tr, ep, ind, vc, nI (sk_R c p).length, xD, xE, cur, tu, ca, c, a, nm, nv, ps, pst, psk, jm, cp, stk, em, ce, rp, ct, cm) (nI p)) ∧ (∀ post : Int32 → Prop, post e → wpY_inside post (yT, ytr, ep, yD, yE, lv, yt, c, a, stk, em, ce, po, yc, ye) (nI p)) ∧ (e = 0 → sk_Ok c a p) := by
  have e : c (nI p).toNatClampNeg = 16 := by rw [nI_clamp (n := p) (by omega)]; exact hc
  have e2 : a (nI p).toNatClampNeg = a p := by rw [nI_clamp (n := p) (by omega)]
  by_cases h : (sk_R c p).length = 6
  · refine ⟨5, ?_, ?_, ?_⟩
    · intro post hpost
      exact ⟨vp_in_nI (n := p) hp (by decide), nm_r e (br_f (by decide) (br_f (by decide) (br_f (by decide) (br_t rfl (br_t (by rw [h]; rfl) hpost)))))⟩
    · intro post hpost
      exact ⟨vp_in_nI (n := p) hp (by decide), nm_r e (sy_sort (Nat.le_of_lt hp) W1 (br_f (by decide) (br_f (by decide) (br_f (by decide) (br_f (by decide) (br_f (by decide) (br_f (by decide) (br_f (by decide) (br_f (by decide) (br_f (by decide) (br_f (by decide) (br_f (by decide) (br_f (by decide) (sy_opT (by decide) (br_f (by decide) (sy_openParts (Nat.le_of_lt hp) W2 (br_t (by rw [h]; rfl) hpost)))))))))))))))))⟩
    · exact fun y => absurd y (by decide)
  · refine ⟨0, ?_, ?_, ?_⟩
    · intro post hpost
      exact ⟨vp_in_nI (n := p) hp (by decide), nm_r e (br_f (by decide) (br_f (by decide) (br_f (by decide) (br_t rfl (br_f (fun y => h ((nI_eq (b := 6) (by omega) (by omega)).mp y)) hpost)))))⟩
    · intro post hpost
      exact ⟨vp_in_nI (n := p) hp (by decide), nm_r e (sy_sort (Nat.le_of_lt hp) W1 (br_f (by decide) (br_f (by decide) (br_f (by decide) (br_f (by decide) (br_f (by decide) (br_f (by decide) (br_f (by decide) (br_f (by decide) (br_f (by decide) (br_f (by decide) (br_f (by decide) (br_f (by decide) (sy_opT (by decide) (br_f (by decide) (sy_openParts (Nat.le_of_lt hp) W2 (br_f (fun y => h ((nI_eq (b := 6) (by omega) (by omega)).mp y)) hpost)))))))))))))))))⟩
    · exact fun _ => ⟨⟨by rw [hc]; decide, by rw [hc]; decide, by rw [hc]; decide⟩, (fun y => absurd (hc.symm.trans y) (by decide)), (fun _ => (by omega)), (fun y => absurd (hc.symm.trans y) (by decide)), (fun y => absurd (hc.symm.trans y) (by decide)), (fun y => absurd (hc.symm.trans y) (by decide)), (fun y => absurd (hc.symm.trans y) (by decide)), (fun y => absurd (hc.symm.trans y) (by decide)), (fun y => absurd (hc.symm.trans y) (by decide)), (fun y => absurd (hc.symm.trans y) (by decide)), (fun y => absurd (hc.symm.trans y) (by decide))⟩
theorem se_17 {p : Nat} (hp : p < 80) (h6 : (sk_R c p).length ≤ 6) (hL : sk_LA c ps pst psk (sk_R c p)) (hH : sk_HI c p (sk_R c p)) (W1 : ∀ q, q < p → (c q = 17 ∨ c q = 21) → sk_R c q ≠ []) (W2 : ∀ q, q < p → sk_cl (c q) → sk_R c q ≠ []) (hc : c p = 17) : ∃ e : Int32, (∀ post : Int32 → Prop, post e → wpX_errorInside post (xT, tr, ep, ind, vc, nI (sk_R c p).length, xD, xE, cur, tu, ca, c, a, nm, nv, ps, pst, psk, jm, cp, stk, em, ce, rp, ct, cm) (nI p)) ∧ (∀ post : Int32 → Prop, post e → wpY_inside post (yT, ytr, ep, yD, yE, lv, yt, c, a, stk, em, ce, po, yc, ye) (nI p)) ∧ (e = 0 → sk_Ok c a p) := by
  have e : c (nI p).toNatClampNeg = 17 := by rw [nI_clamp (n := p) (by omega)]; exact hc
  have e2 : a (nI p).toNatClampNeg = a p := by rw [nI_clamp (n := p) (by omega)]
  by_cases h : sk_hs c (sk_R c p) = 16
  · refine ⟨0, ?_, ?_, ?_⟩
    · intro post hpost
      exact ⟨vp_in_nI (n := p) hp (by decide), nm_r e (br_f (by decide) (br_f (by decide) (br_f (by decide) (br_f (by decide) (br_t rfl (sx_last h6 hL (br_f (by decide) (br_f (by decide) (br_t rfl (br_t h (br_f (by decide) hpost)))))))))))⟩
    · intro post hpost
      exact ⟨vp_in_nI (n := p) hp (by decide), nm_r e (sy_sort (Nat.le_of_lt hp) W1 (br_f (by decide) (br_f (by decide) (br_f (by decide) (br_f (by decide) (br_t rfl (br_t h (br_f (by decide) (br_f (by decide) (br_f (by decide) (br_f (by decide) (br_f (by decide) (br_f (by decide) (br_f (by decide) (sy_opF (by decide) (br_t rfl hpost))))))))))))))))⟩
    · exact fun _ => ⟨⟨by rw [hc]; decide, by rw [hc]; decide, by rw [hc]; decide⟩, (fun y => absurd (hc.symm.trans y) (by decide)), (fun y => by rw [hc] at y; exact absurd y (by decide)), (fun _ => h), (fun y => absurd (hc.symm.trans y) (by decide)), (fun y => absurd (hc.symm.trans y) (by decide)), (fun y => absurd (hc.symm.trans y) (by decide)), (fun y => absurd (hc.symm.trans y) (by decide)), (fun y => absurd (hc.symm.trans y) (by decide)), (fun y => absurd (hc.symm.trans y) (by decide)), (fun y => absurd (hc.symm.trans y) (by decide))⟩
  · refine ⟨4, ?_, ?_, ?_⟩
    · intro post hpost
      exact ⟨vp_in_nI (n := p) hp (by decide), nm_r e (br_f (by decide) (br_f (by decide) (br_f (by decide) (br_f (by decide) (br_t rfl (sx_last h6 hL (br_f (by decide) (br_f (by decide) (br_t rfl (br_f h (br_t rfl hpost)))))))))))⟩
    · intro post hpost
      exact ⟨vp_in_nI (n := p) hp (by decide), nm_r e (sy_sort (Nat.le_of_lt hp) W1 (br_f (by decide) (br_f (by decide) (br_f (by decide) (br_f (by decide) (br_t rfl (br_f h hpost)))))))⟩
    · exact fun y => absurd y (by decide)
theorem se_18 {p : Nat} (hp : p < 80) (h6 : (sk_R c p).length ≤ 6) (hL : sk_LA c ps pst psk (sk_R c p)) (hH : sk_HI c p (sk_R c p)) (W1 : ∀ q, q < p → (c q = 17 ∨ c q = 21) → sk_R c q ≠ []) (W2 : ∀ q, q < p → sk_cl (c q) → sk_R c q ≠ []) (hc : c p = 18) : ∃ e : Int32, (∀ post : Int32 → Prop, post e → wpX_errorInside post (xT, tr, ep, ind, vc, nI (sk_R c p).length, xD, xE, cur, tu, ca, c, a, nm, nv, ps, pst, psk, jm, cp, stk, em, ce, rp, ct, cm) (nI p)) ∧ (∀ post : Int32 → Prop, post e → wpY_inside post (yT, ytr, ep, yD, yE, lv, yt, c, a, stk, em, ce, po, yc, ye) (nI p)) ∧ (e = 0 → sk_Ok c a p) := by
  have e : c (nI p).toNatClampNeg = 18 := by rw [nI_clamp (n := p) (by omega)]; exact hc
  have e2 : a (nI p).toNatClampNeg = a p := by rw [nI_clamp (n := p) (by omega)]
  by_cases h : sk_hs c (sk_R c p) = 16
  · refine ⟨0, ?_, ?_, ?_⟩
    · intro post hpost
      exact ⟨vp_in_nI (n := p) hp (by decide), nm_r e (br_f (by decide) (br_f (by decide) (br_f (by decide) (br_f (by decide) (br_f (by decide) (br_t rfl (sx_last h6 hL (br_f (by decide) (br_f (by decide) (br_f (by decide) (br_t rfl (br_t h (br_f (by decide) hpost)))))))))))))⟩
    · intro post hpost
      exact ⟨vp_in_nI (n := p) hp (by decide), nm_r e (sy_sort (Nat.le_of_lt hp) W1 (br_f (by decide) (br_f (by decide) (br_f (by decide) (br_f (by decide) (br_f (by decide) (br_t rfl (br_t h (br_f (by decide) (br_f (by decide) (br_f (by decide) (br_f (by decide) (br_f (by decide) (br_f (by decide) (sy_opF (by decide) (br_t rfl hpost))))))))))))))))⟩
    · exact fun _ => ⟨⟨by rw [hc]; decide, by rw [hc]; decide, by rw [hc]; decide⟩, (fun y => absurd (hc.symm.trans y) (by decide)), (fun y => by rw [hc] at y; exact absurd y (by decide)), (fun y => absurd (hc.symm.trans y) (by decide)), (fun _ => Or.inl h), (fun y => absurd (hc.symm.trans y) (by decide)), (fun y => absurd (hc.symm.trans y) (by decide)), (fun y => absurd (hc.symm.trans y) (by decide)), (fun y => absurd (hc.symm.trans y) (by decide)), (fun y => absurd (hc.symm.trans y) (by decide)), (fun y => absurd (hc.symm.trans y) (by decide))⟩
  · by_cases h2 : sk_hs c (sk_R c p) = 17
    · refine ⟨0, ?_, ?_, ?_⟩
      · intro post hpost
        exact ⟨vp_in_nI (n := p) hp (by decide), nm_r e (br_f (by decide) (br_f (by decide) (br_f (by decide) (br_f (by decide) (br_f (by decide) (br_t rfl (sx_last h6 hL (br_f (by decide) (br_f (by decide) (br_f (by decide) (br_t rfl (br_f h (br_t h2 (br_f (by decide) hpost))))))))))))))⟩
      · intro post hpost
        exact ⟨vp_in_nI (n := p) hp (by decide), nm_r e (sy_sort (Nat.le_of_lt hp) W1 (br_f (by decide) (br_f (by decide) (br_f (by decide) (br_f (by decide) (br_f (by decide) (br_t rfl (br_f h (br_t h2 (br_f (by decide) (br_f (by decide) (br_f (by decide) (br_f (by decide) (br_f (by decide) (br_f (by decide) (sy_opF (by decide) (br_t rfl hpost)))))))))))))))))⟩
      · exact fun _ => ⟨⟨by rw [hc]; decide, by rw [hc]; decide, by rw [hc]; decide⟩, (fun y => absurd (hc.symm.trans y) (by decide)), (fun y => by rw [hc] at y; exact absurd y (by decide)), (fun y => absurd (hc.symm.trans y) (by decide)), (fun _ => Or.inr h2), (fun y => absurd (hc.symm.trans y) (by decide)), (fun y => absurd (hc.symm.trans y) (by decide)), (fun y => absurd (hc.symm.trans y) (by decide)), (fun y => absurd (hc.symm.trans y) (by decide)), (fun y => absurd (hc.symm.trans y) (by decide)), (fun y => absurd (hc.symm.trans y) (by decide))⟩
    · refine ⟨4, ?_, ?_, ?_⟩
      · intro post hpost
        exact ⟨vp_in_nI (n := p) hp (by decide), nm_r e (br_f (by decide) (br_f (by decide) (br_f (by decide) (br_f (by decide) (br_f (by decide) (br_t rfl (sx_last h6 hL (br_f (by decide) (br_f (by decide) (br_f (by decide) (br_t rfl (br_f h (br_f h2 (br_t rfl hpost))))))))))))))⟩
      · intro post hpost
        exact ⟨vp_in_nI (n := p) hp (by decide), nm_r e (sy_sort (Nat.le_of_lt hp) W1 (br_f (by decide) (br_f (by decide) (br_f (by decide) (br_f (by decide) (br_f (by decide) (br_t rfl (br_f h (br_f h2 hpost)))))))))⟩
      · exact fun y => absurd y (by decide)
theorem se_19 {p : Nat} (hp : p < 80) (h6 : (sk_R c p).length ≤ 6) (hL : sk_LA c ps pst psk (sk_R c p)) (hH : sk_HI c p (sk_R c p)) (W1 : ∀ q, q < p → (c q = 17 ∨ c q = 21) → sk_R c q ≠ []) (W2 : ∀ q, q < p → sk_cl (c q) → sk_R c q ≠ []) (hc : c p = 19) : ∃ e : Int32, (∀ post : Int32 → Prop, post e → wpX_errorInside post (xT, tr, ep, ind, vc, nI (sk_R c p).length, xD, xE, cur, tu, ca, c, a, nm, nv, ps, pst, psk, jm, cp, stk, em, ce, rp, ct, cm) (nI p)) ∧ (∀ post : Int32 → Prop, post e → wpY_inside post (yT, ytr, ep, yD, yE, lv, yt, c, a, stk, em, ce, po, yc, ye) (nI p)) ∧ (e = 0 → sk_Ok c a p) := by
  have e : c (nI p).toNatClampNeg = 19 := by rw [nI_clamp (n := p) (by omega)]; exact hc
  have e2 : a (nI p).toNatClampNeg = a p := by rw [nI_clamp (n := p) (by omega)]
  by_cases h : (sk_R c p).length = 6
  · refine ⟨5, ?_, ?_, ?_⟩
    · intro post hpost
      exact ⟨vp_in_nI (n := p) hp (by decide), nm_r e (br_f (by decide) (br_f (by decide) (br_f (by decide) (br_f (by decide) (br_f (by decide) (br_f (by decide) (br_t rfl (br_t (by rw [h]; rfl) hpost))))))))⟩
    · intro post hpost
      exact ⟨vp_in_nI (n := p) hp (by decide), nm_r e (sy_sort (Nat.le_of_lt hp) W1 (br_f (by decide) (br_f (by decide) (br_f (by decide) (br_f (by decide) (br_f (by decide) (br_f (by decide) (br_f (by decide) (br_f (by decide) (br_f (by decide) (br_f (by decide) (br_f (by decide) (br_f (by decide) (sy_opT (by decide) (br_f (by decide) (sy_openParts (Nat.le_of_lt hp) W2 (br_t (by rw [h]; rfl) hpost)))))))))))))))))⟩
    · exact fun y => absurd y (by decide)
  · refine ⟨0, ?_, ?_, ?_⟩
    · intro post hpost
      exact ⟨vp_in_nI (n := p) hp (by decide), nm_r e (br_f (by decide) (br_f (by decide) (br_f (by decide) (br_f (by decide) (br_f (by decide) (br_f (by decide) (br_t rfl (br_f (fun y => h ((nI_eq (b := 6) (by omega) (by omega)).mp y)) hpost))))))))⟩
    · intro post hpost
      exact ⟨vp_in_nI (n := p) hp (by decide), nm_r e (sy_sort (Nat.le_of_lt hp) W1 (br_f (by decide) (br_f (by decide) (br_f (by decide) (br_f (by decide) (br_f (by decide) (br_f (by decide) (br_f (by decide) (br_f (by decide) (br_f (by decide) (br_f (by decide) (br_f (by decide) (br_f (by decide) (sy_opT (by decide) (br_f (by decide) (sy_openParts (Nat.le_of_lt hp) W2 (br_f (fun y => h ((nI_eq (b := 6) (by omega) (by omega)).mp y)) hpost)))))))))))))))))⟩
    · exact fun _ => ⟨⟨by rw [hc]; decide, by rw [hc]; decide, by rw [hc]; decide⟩, (fun y => absurd (hc.symm.trans y) (by decide)), (fun _ => (by omega)), (fun y => absurd (hc.symm.trans y) (by decide)), (fun y => absurd (hc.symm.trans y) (by decide)), (fun y => absurd (hc.symm.trans y) (by decide)), (fun y => absurd (hc.symm.trans y) (by decide)), (fun y => absurd (hc.symm.trans y) (by decide)), (fun y => absurd (hc.symm.trans y) (by decide)), (fun y => absurd (hc.symm.trans y) (by decide)), (fun y => absurd (hc.symm.trans y) (by decide))⟩
theorem se_20 {p : Nat} (hp : p < 80) (h6 : (sk_R c p).length ≤ 6) (hL : sk_LA c ps pst psk (sk_R c p)) (hH : sk_HI c p (sk_R c p)) (W1 : ∀ q, q < p → (c q = 17 ∨ c q = 21) → sk_R c q ≠ []) (W2 : ∀ q, q < p → sk_cl (c q) → sk_R c q ≠ []) (hc : c p = 20) : ∃ e : Int32, (∀ post : Int32 → Prop, post e → wpX_errorInside post (xT, tr, ep, ind, vc, nI (sk_R c p).length, xD, xE, cur, tu, ca, c, a, nm, nv, ps, pst, psk, jm, cp, stk, em, ce, rp, ct, cm) (nI p)) ∧ (∀ post : Int32 → Prop, post e → wpY_inside post (yT, ytr, ep, yD, yE, lv, yt, c, a, stk, em, ce, po, yc, ye) (nI p)) ∧ (e = 0 → sk_Ok c a p) := by
  have e : c (nI p).toNatClampNeg = 20 := by rw [nI_clamp (n := p) (by omega)]; exact hc
  have e2 : a (nI p).toNatClampNeg = a p := by rw [nI_clamp (n := p) (by omega)]
  by_cases h : sk_hs c (sk_R c p) = 19
  · refine ⟨0, ?_, ?_, ?_⟩
    · intro post hpost
      exact ⟨vp_in_nI (n := p) hp (by decide), nm_r e (br_f (by decide) (br_f (by decide) (br_f (by decide) (br_f (by decide) (br_f (by decide) (br_f (by decide) (br_f (by decide) (br_t rfl (sx_last h6 hL (br_f (by decide) (br_f (by decide) (br_f (by decide) (br_f (by decide) (br_f (by decide) (br_t rfl (br_t h (br_f (by decide) hpost)))))))))))))))))⟩
    · intro post hpost
      exact ⟨vp_in_nI (n := p) hp (by decide), nm_r e (sy_sort (Nat.le_of_lt hp) W1 (br_f (by decide) (br_f (by decide) (br_f (by decide) (br_f (by decide) (br_f (by decide) (br_f (by decide) (br_t rfl (br_t h (br_f (by decide) (br_f (by decide) (br_f (by decide) (br_f (by decide) (sy_opF (by decide) (br_t rfl hpost)))))))))))))))⟩
    · exact fun _ => ⟨⟨by rw [hc]; decide, by rw [hc]; decide, by rw [hc]; decide⟩, (fun y => absurd (hc.symm.trans y) (by decide)), (fun y => by rw [hc] at y; exact absurd y (by decide)), (fun y => absurd (hc.symm.trans y) (by decide)), (fun y => absurd (hc.symm.trans y) (by decide)), (fun _ => h), (fun y => absurd (hc.symm.trans y) (by decide)), (fun y => absurd (hc.symm.trans y) (by decide)), (fun y => absurd (hc.symm.trans y) (by decide)), (fun y => absurd (hc.symm.trans y) (by decide)), (fun y => absurd (hc.symm.trans y) (by decide))⟩
  · refine ⟨4, ?_, ?_, ?_⟩
    · intro post hpost
      exact ⟨vp_in_nI (n := p) hp (by decide), nm_r e (br_f (by decide) (br_f (by decide) (br_f (by decide) (br_f (by decide) (br_f (by decide) (br_f (by decide) (br_f (by decide) (br_t rfl (sx_last h6 hL (br_f (by decide) (br_f (by decide) (br_f (by decide) (br_f (by decide) (br_f (by decide) (br_t rfl (br_f h (br_t rfl hpost)))))))))))))))))⟩
    · intro post hpost
      exact ⟨vp_in_nI (n := p) hp (by decide), nm_r e (sy_sort (Nat.le_of_lt hp) W1 (br_f (by decide) (br_f (by decide) (br_f (by decide) (br_f (by decide) (br_f (by decide) (br_f (by decide) (br_t rfl (br_f h hpost)))))))))⟩
    · exact fun y => absurd y (by decide)
theorem se_21 {p : Nat} (hp : p < 80) (h6 : (sk_R c p).length ≤ 6) (hL : sk_LA c ps pst psk (sk_R c p)) (hH : sk_HI c p (sk_R c p)) (W1 : ∀ q, q < p → (c q = 17 ∨ c q = 21) → sk_R c q ≠ []) (W2 : ∀ q, q < p → sk_cl (c q) → sk_R c q ≠ []) (hc : c p = 21) : ∃ e : Int32, (∀ post : Int32 → Prop, post e → wpX_errorInside post (xT, tr, ep, ind, vc, nI (sk_R c p).length, xD, xE, cur, tu, ca, c, a, nm, nv, ps, pst, psk, jm, cp, stk, em, ce, rp, ct, cm) (nI p)) ∧ (∀ post : Int32 → Prop, post e → wpY_inside post (yT, ytr, ep, yD, yE, lv, yt, c, a, stk, em, ce, po, yc, ye) (nI p)) ∧ (e = 0 → sk_Ok c a p) := by
  have e : c (nI p).toNatClampNeg = 21 := by rw [nI_clamp (n := p) (by omega)]; exact hc
  have e2 : a (nI p).toNatClampNeg = a p := by rw [nI_clamp (n := p) (by omega)]
  by_cases h : sk_hs c (sk_R c p) = 19
  · refine ⟨0, ?_, ?_, ?_⟩
    · intro post hpost
      exact ⟨vp_in_nI (n := p) hp (by decide), nm_r e (br_f (by decide) (br_f (by decide) (br_f (by decide) (br_f (by decide) (br_f (by decide) (br_f (by decide) (br_f (by decide) (br_f (by decide) (br_t rfl (sx_last h6 hL (br_f (by decide) (br_f (by decide) (br_f (by decide) (br_f (by decide) (br_f (by decide) (br_f (by decide) (br_t rfl (br_t h (br_f (by decide) hpost)))))))))))))))))))⟩
    · intro post hpost
      exact ⟨vp_in_nI (n := p) hp (by decide), nm_r e (sy_sort (Nat.le_of_lt hp) W1 (br_f (by decide) (br_f (by decide) (br_f (by decide) (br_f (by decide) (br_f (by decide) (br_f (by decide) (br_f (by decide) (br_t rfl (br_t h (br_f (by decide) (br_f (by decide) (br_f (by decide) (br_f (by decide) (sy_opF (by decide) (br_t rfl hpost))))))))))))))))⟩
    · exact fun _ => ⟨⟨by rw [hc]; decide, by rw [hc]; decide, by rw [hc]; decide⟩, (fun y => absurd (hc.symm.trans y) (by decide)), (fun y => by rw [hc] at y; exact absurd y (by decide)), (fun y => absurd (hc.symm.trans y) (by decide)), (fun y => absurd (hc.symm.trans y) (by decide)), (fun y => absurd (hc.symm.trans y) (by decide)), (fun _ => h), (fun y => absurd (hc.symm.trans y) (by decide)), (fun y => absurd (hc.symm.trans y) (by decide)), (fun y => absurd (hc.symm.trans y) (by decide)), (fun y => absurd (hc.symm.trans y) (by decide))⟩
  · refine ⟨4, ?_, ?_, ?_⟩
    · intro post hpost
      exact ⟨vp_in_nI (n := p) hp (by decide), nm_r e (br_f (by decide) (br_f (by decide) (br_f (by decide) (br_f (by decide) (br_f (by decide) (br_f (by decide) (br_f (by decide) (br_f (by decide) (br_t rfl (sx_last h6 hL (br_f (by decide) (br_f (by decide) (br_f (by decide) (br_f (by decide) (br_f (by decide) (br_f (by decide) (br_t rfl (br_f h (br_t rfl hpost)))))))))))))))))))⟩
    · intro post hpost
      exact ⟨vp_in_nI (n := p) hp (by decide), nm_r e (sy_sort (Nat.le_of_lt hp) W1 (br_f (by decide) (br_f (by decide) (br_f (by decide) (br_f (by decide) (br_f (by decide) (br_f (by decide) (br_f (by decide) (br_t rfl (br_f h hpost))))))))))⟩
    · exact fun y => absurd y (by decide)
theorem se_22 {p : Nat} (hp : p < 80) (h6 : (sk_R c p).length ≤ 6) (hL : sk_LA c ps pst psk (sk_R c p)) (hH : sk_HI c p (sk_R c p)) (W1 : ∀ q, q < p → (c q = 17 ∨ c q = 21) → sk_R c q ≠ []) (W2 : ∀ q, q < p → sk_cl (c q) → sk_R c q ≠ []) (hc : c p = 22) : ∃ e : Int32, (∀ post : Int32 → Prop, post e → wpX_errorInside post (xT, tr, ep, ind, vc, nI (sk_R c p).length, xD, xE, cur, tu, ca, c, a, nm, nv, ps, pst, psk, jm, cp, stk, em, ce, rp, ct, cm) (nI p)) ∧ (∀ post : Int32 → Prop, post e → wpY_inside post (yT, ytr, ep, yD, yE, lv, yt, c, a, stk, em, ce, po, yc, ye) (nI p)) ∧ (e = 0 → sk_Ok c a p) := by
  have e : c (nI p).toNatClampNeg = 22 := by rw [nI_clamp (n := p) (by omega)]; exact hc
  have e2 : a (nI p).toNatClampNeg = a p := by rw [nI_clamp (n := p) (by omega)]
  by_cases h : sk_hs c (sk_R c p) = 21
  · refine ⟨0, ?_, ?_, ?_⟩
    · intro post hpost
      exact ⟨vp_in_nI (n := p) hp (by decide), nm_r e (br_f (by decide) (br_f (by decide) (br_f (by decide) (br_f (by decide) (br_f (by decide) (br_f (by decide) (br_f (by decide) (br_f (by decide) (br_f (by decide) (br_t rfl (sx_last h6 hL (br_f (by decide) (br_f (by decide) (br_f (by decide) (br_f (by decide) (br_f (by decide) (br_f (by decide) (br_f (by decide) (br_t rfl (br_t h (br_f (by decide) hpost)))))))))))))))))))))⟩
    · intro post hpost
      exact ⟨vp_in_nI (n := p) hp (by decide), nm_r e (sy_sort (Nat.le_of_lt hp) W1 (br_f (by decide) (br_f (by decide) (br_f (by decide) (br_f (by decide) (br_f (by decide) (br_f (by decide) (br_f (by decide) (br_f (by decide) (br_t rfl (br_t h (br_f (by decide) (br_f (by decide) (br_f (by decide) (sy_opF (by decide) (br_t rfl hpost))))))))))))))))⟩
    · exact fun _ => ⟨⟨by rw [hc]; decide, by rw [hc]; decide, by rw [hc]; decide⟩, (fun y => absurd (hc.symm.trans y) (by decide)), (fun y => by rw [hc] at y; exact absurd y (by decide)), (fun y => absurd (hc.symm.trans y) (by decide)), (fun y => absurd (hc.symm.trans y) (by decide)), (fun y => absurd (hc.symm.trans y) (by decide)), (fun y => absurd (hc.symm.trans y) (by decide)), (fun _ => h), (fun y => absurd (hc.symm.trans y) (by decide)), (fun y => absurd (hc.symm.trans y) (by decide)), (fun y => absurd (hc.symm.trans y) (by decide))⟩
  · refine ⟨4, ?_, ?_, ?_⟩
    · intro post hpost
      exact ⟨vp_in_nI (n := p) hp (by decide), nm_r e (br_f (by decide) (br_f (by decide) (br_f (by decide) (br_f (by decide) (br_f (by decide) (br_f (by decide) (br_f (by decide) (br_f (by decide) (br_f (by decide) (br_t rfl (sx_last h6 hL (br_f (by decide) (br_f (by decide) (br_f (by decide) (br_f (by decide) (br_f (by decide) (br_f (by decide) (br_f (by decide) (br_t rfl (br_f h (br_t rfl hpost)))))))))))))))))))))⟩
    · intro post hpost
      exact ⟨vp_in_nI (n := p) hp (by decide), nm_r e (sy_sort (Nat.le_of_lt hp) W1 (br_f (by decide) (br_f (by decide) (br_f (by decide) (br_f (by decide) (br_f (by decide) (br_f (by decide) (br_f (by decide) (br_f (by decide) (br_t rfl (br_f h hpost)))))))))))⟩
    · exact fun y => absurd y (by decide)
theorem se_23 {p : Nat} (hp : p < 80) (h6 : (sk_R c p).length ≤ 6) (hL : sk_LA c ps pst psk (sk_R c p)) (hH : sk_HI c p (sk_R c p)) (W1 : ∀ q, q < p → (c q = 17 ∨ c q = 21) → sk_R c q ≠ []) (W2 : ∀ q, q < p → sk_cl (c q) → sk_R c q ≠ []) (hc : c p = 23) : ∃ e : Int32, (∀ post : Int32 → Prop, post e → wpX_errorInside post (xT, tr, ep, ind, vc, nI (sk_R c p).length, xD, xE, cur, tu, ca, c, a, nm, nv, ps, pst, psk, jm, cp, stk, em, ce, rp, ct, cm) (nI p)) ∧ (∀ post : Int32 → Prop, post e → wpY_inside post (yT, ytr, ep, yD, yE, lv, yt, c, a, stk, em, ce, po, yc, ye) (nI p)) ∧ (e = 0 → sk_Ok c a p) := by
  have e : c (nI p).toNatClampNeg = 23 := by rw [nI_clamp (n := p) (by omega)]; exact hc
  have e2 : a (nI p).toNatClampNeg = a p := by rw [nI_clamp (n := p) (by omega)]
  by_cases h : (sk_R c p).length = 6
  · refine ⟨5, ?_, ?_, ?_⟩
    · intro post hpost
      exact ⟨vp_in_nI (n := p) hp (by decide), nm_r e (br_f (by decide) (br_f (by decide) (br_f (by decide) (br_f (by decide) (br_f (by decide) (br_f (by decide) (br_f (by decide) (br_f (by decide) (br_f (by decide) (br_f (by decide) (br_t rfl (br_t (by rw [h]; rfl) hpost))))))))))))⟩
    · intro post hpost
      exact ⟨vp_in_nI (n := p) hp (by decide), nm_r e (sy_sort (Nat.le_of_lt hp) W1 (br_f (by decide) (br_f (by decide) (br_f (by decide) (br_f (by decide) (br_f (by decide) (br_f (by decide) (br_f (by decide) (br_f (by decide) (br_f (by decide) (br_f (by decide) (br_f (by decide) (br_f (by decide) (sy_opT (by decide) (br_f (by decide) (sy_openParts (Nat.le_of_lt hp) W2 (br_t (by rw [h]; rfl) hpost)))))))))))))))))⟩
    · exact fun y => absurd y (by decide)
  · refine ⟨0, ?_, ?_, ?_⟩
    · intro post hpost
      exact ⟨vp_in_nI (n := p) hp (by decide), nm_r e (br_f (by decide) (br_f (by decide) (br_f (by decide) (br_f (by decide) (br_f (by decide) (br_f (by decide) (br_f (by decide) (br_f (by decide) (br_f (by decide) (br_f (by decide) (br_t rfl (br_f (fun y => h ((nI_eq (b := 6) (by omega) (by omega)).mp y)) hpost))))))))))))⟩
    · intro post hpost
      exact ⟨vp_in_nI (n := p) hp (by decide), nm_r e (sy_sort (Nat.le_of_lt hp) W1 (br_f (by decide) (br_f (by decide) (br_f (by decide) (br_f (by decide) (br_f (by decide) (br_f (by decide) (br_f (by decide) (br_f (by decide) (br_f (by decide) (br_f (by decide) (br_f (by decide) (br_f (by decide) (sy_opT (by decide) (br_f (by decide) (sy_openParts (Nat.le_of_lt hp) W2 (br_f (fun y => h ((nI_eq (b := 6) (by omega) (by omega)).mp y)) hpost)))))))))))))))))⟩
    · exact fun _ => ⟨⟨by rw [hc]; decide, by rw [hc]; decide, by rw [hc]; decide⟩, (fun y => absurd (hc.symm.trans y) (by decide)), (fun _ => (by omega)), (fun y => absurd (hc.symm.trans y) (by decide)), (fun y => absurd (hc.symm.trans y) (by decide)), (fun y => absurd (hc.symm.trans y) (by decide)), (fun y => absurd (hc.symm.trans y) (by decide)), (fun y => absurd (hc.symm.trans y) (by decide)), (fun y => absurd (hc.symm.trans y) (by decide)), (fun y => absurd (hc.symm.trans y) (by decide)), (fun y => absurd (hc.symm.trans y) (by decide))⟩
theorem se_24 {p : Nat} (hp : p < 80) (h6 : (sk_R c p).length ≤ 6) (hL : sk_LA c ps pst psk (sk_R c p)) (hH : sk_HI c p (sk_R c p)) (W1 : ∀ q, q < p → (c q = 17 ∨ c q = 21) → sk_R c q ≠ []) (W2 : ∀ q, q < p → sk_cl (c q) → sk_R c q ≠ []) (hc : c p = 24) : ∃ e : Int32, (∀ post : Int32 → Prop, post e → wpX_errorInside post (xT, tr, ep, ind, vc, nI (sk_R c p).length, xD, xE, cur, tu, ca, c, a, nm, nv, ps, pst, psk, jm, cp, stk, em, ce, rp, ct, cm) (nI p)) ∧ (∀ post : Int32 → Prop, post e → wpY_inside post (yT, ytr, ep, yD, yE, lv, yt, c, a, stk, em, ce, po, yc, ye) (nI p)) ∧ (e = 0 → sk_Ok c a p) := by
  have e : c (nI p).toNatClampNeg = 24 := by rw [nI_clamp (n := p) (by omega)]; exact hc
  have e2 : a (nI p).toNatClampNeg = a p := by rw [nI_clamp (n := p) (by omega)]
  by_cases h : sk_hs c (sk_R c p) = 23
  · refine ⟨0, ?_, ?_, ?_⟩
    · intro post hpost
      exact ⟨vp_in_nI (n := p) hp (by decide), nm_r e (br_f (by decide) (br_f (by decide) (br_f (by decide) (br_f (by decide) (br_f (by decide) (br_f (by decide) (br_f (by decide) (br_f (by decide) (br_f (by decide) (br_f (by decide) (br_f (by decide) (br_t rfl (sx_last h6 hL (br_f (by decide) (br_f (by decide) (br_f (by decide) (br_f (by decide) (br_f (by decide) (br_f (by decide) (br_f (by decide) (br_f (by decide) (br_f (by decide) (br_t rfl (br_t h (br_f (by decide) hpost)))))))))))))))))))))))))⟩
    · intro post hpost
      exact ⟨vp_in_nI (n := p) hp (by decide), nm_r e (sy_sort (Nat.le_of_lt hp) W1 (br_f (by decide) (br_f (by decide) (br_f (by decide) (br_f (by decide) (br_f (by decide) (br_f (by decide) (br_f (by decide) (br_f (by decide) (br_f (by decide) (br_t rfl (br_t h (br_f (by decide) (br_f (by decide) (sy_opF (by decide) (br_t rfl hpost))))))))))))))))⟩
    · exact fun _ => ⟨⟨by rw [hc]; decide, by rw [hc]; decide, by rw [hc]; decide⟩, (fun y => absurd (hc.symm.trans y) (by decide)), (fun y => by rw [hc] at y; exact absurd y (by decide)), (fun y => absurd (hc.symm.trans y) (by decide)), (fun y => absurd (hc.symm.trans y) (by decide)), (fun y => absurd (hc.symm.trans y) (by decide)), (fun y => absurd (hc.symm.trans y) (by decide)), (fun y => absurd (hc.symm.trans y) (by decide)), (fun _ => h), (fun y => absurd (hc.symm.trans y) (by decide)), (fun y => absurd (hc.symm.trans y) (by decide))⟩
  · refine ⟨4, ?_, ?_, ?_⟩
    · intro post hpost
      exact ⟨vp_in_nI (n := p) hp (by decide), nm_r e (br_f (by decide) (br_f (by decide) (br_f (by decide) (br_f (by decide) (br_f (by decide) (br_f (by decide) (br_f (by decide) (br_f (by decide) (br_f (by decide) (br_f (by decide) (br_f (by decide) (br_t rfl (sx_last h6 hL (br_f (by decide) (br_f (by decide) (br_f (by decide) (br_f (by decide) (br_f (by decide) (br_f (by decide) (br_f (by decide) (br_f (by decide) (br_f (by decide) (br_t rfl (br_f h (br_t rfl hpost)))))))))))))))))))))))))⟩
    · intro post hpost
      exact ⟨vp_in_nI (n := p) hp (by decide), nm_r e (sy_sort (Nat.le_of_lt hp) W1 (br_f (by decide) (br_f (by decide) (br_f (by decide) (br_f (by decide) (br_f (by decide) (br_f (by decide) (br_f (by decide) (br_f (by decide) (br_f (by decide) (br_t rfl (br_f h hpost))))))))))))⟩
    · exact fun y => absurd y (by decide)
theorem se_25 {p : Nat} (hp : p < 80) (h6 : (sk_R c p).length ≤ 6) (hL : sk_LA c ps pst psk (sk_R c p)) (hH : sk_HI c p (sk_R c p)) (W1 : ∀ q, q < p → (c q = 17 ∨ c q = 21) → sk_R c q ≠ []) (W2 : ∀ q, q < p → sk_cl (c q) → sk_R c q ≠ []) (hc : c p = 25) : ∃ e : Int32, (∀ post : Int32 → Prop, post e → wpX_errorInside post (xT, tr, ep, ind, vc, nI (sk_R c p).length, xD, xE, cur, tu, ca, c, a, nm, nv, ps, pst, psk, jm, cp, stk, em, ce, rp, ct, cm) (nI p)) ∧ (∀ post : Int32 → Prop, post e → wpY_inside post (yT, ytr, ep, yD, yE, lv, yt, c, a, stk, em, ce, po, yc, ye) (nI p)) ∧ (e = 0 → sk_Ok c a p) := by
  have e : c (nI p).toNatClampNeg = 25 := by rw [nI_clamp (n := p) (by omega)]; exact hc
  have e2 : a (nI p).toNatClampNeg = a p := by rw [nI_clamp (n := p) (by omega)]
  rcases sk_tmS hH with ⟨h1, h2, h3⟩ | ⟨q, k, t, h1, h2, h3, h4, h5, h5b, h5c⟩
  · refine ⟨4, ?_, ?_, ?_⟩
    · intro post hpost
      exact ⟨vp_in_nI (n := p) hp (by decide), nm_r e (br_f (by decide) (br_f (by decide) (br_f (by decide) (br_f (by decide) (br_f (by decide) (br_f (by decide) (br_f (by decide) (br_f (by decide) (br_f (by decide) (br_f (by decide) (br_f (by decide) (br_f (by decide) (br_t rfl (sx_last h6 hL (br_f (by decide) (br_f (by decide) (br_f (by decide) (br_f (by decide) (br_f (by decide) (br_f (by decide) (br_f (by decide) (br_f (by decide) (br_f (by decide) (br_f (by decide) (br_t rfl (sx_inner h6 hL (br_t h2 (br_t rfl hpost))))))))))))))))))))))))))))⟩
    · intro post hpost
      exact ⟨vp_in_nI (n := p) hp (by decide), nm_r e (sy_sort (Nat.le_of_lt hp) W1 (br_f (by decide) (br_f (by decide) (br_f (by decide) (br_f (by decide) (br_f (by decide) (br_f (by decide) (br_f (by decide) (br_f (by decide) (br_f (by decide) (br_f (by decide) (br_t rfl (sy_around (Nat.le_of_lt hp) (by rw [h3]; exact br_t (by decide) hpost))))))))))))))⟩
    · exact fun y => absurd y (by decide)
  · have hq : q < 80 := by
      have := sk_HIlt hH h4
      omega
    refine ⟨0, ?_, ?_, ?_⟩
    · intro post hpost
      exact ⟨vp_in_nI (n := p) hp (by decide), nm_r e (br_f (by decide) (br_f (by decide) (br_f (by decide) (br_f (by decide) (br_f (by decide) (br_f (by decide) (br_f (by decide) (br_f (by decide) (br_f (by decide) (br_f (by decide) (br_f (by decide) (br_f (by decide) (br_t rfl (sx_last h6 hL (br_f (by decide) (br_f (by decide) (br_f (by decide) (br_f (by decide) (br_f (by decide) (br_f (by decide) (br_f (by decide) (br_f (by decide) (br_f (by decide) (br_f (by decide) (br_t rfl (sx_inner h6 hL (br_f (by rw [h2]; exact sk_nm1 (by omega)) (br_f (by decide) hpost))))))))))))))))))))))))))))⟩
    · intro post hpost
      exact ⟨vp_in_nI (n := p) hp (by decide), nm_r e (sy_sort (Nat.le_of_lt hp) W1 (br_f (by decide) (br_f (by decide) (br_f (by decide) (br_f (by decide) (br_f (by decide) (br_f (by decide) (br_f (by decide) (br_f (by decide) (br_f (by decide) (br_f (by decide) (br_t rfl (sy_around (Nat.le_of_lt hp) (by rw [h3]; exact br_f (nI_pos (by omega)) (br_f (by decide) (sy_opF (by decide) (br_t rfl hpost)))))))))))))))))⟩
    · exact fun _ => ⟨⟨by rw [hc]; decide, by rw [hc]; decide, by rw [hc]; decide⟩, (fun y => absurd (hc.symm.trans y) (by decide)), (fun y => by rw [hc] at y; exact absurd y (by decide)), (fun y => absurd (hc.symm.trans y) (by decide)), (fun y => absurd (hc.symm.trans y) (by decide)), (fun y => absurd (hc.symm.trans y) (by decide)), (fun y => absurd (hc.symm.trans y) (by decide)), (fun y => absurd (hc.symm.trans y) (by decide)), (fun y => absurd (hc.symm.trans y) (by decide)), (fun _ => (by rw [h1]; exact fun y => by cases y)), (fun y => absurd (hc.symm.trans y) (by decide))⟩
theorem se_27 {p : Nat} (hp : p < 80) (h6 : (sk_R c p).length ≤ 6) (hL : sk_LA c ps pst psk (sk_R c p)) (hH : sk_HI c p (sk_R c p)) (W1 : ∀ q, q < p → (c q = 17 ∨ c q = 21) → sk_R c q ≠ []) (W2 : ∀ q, q < p → sk_cl (c q) → sk_R c q ≠ []) (hc : c p = 27) : ∃ e : Int32, (∀ post : Int32 → Prop, post e → wpX_errorInside post (xT, tr, ep, ind, vc, nI (sk_R c p).length, xD, xE, cur, tu, ca, c, a, nm, nv, ps, pst, psk, jm, cp, stk, em, ce, rp, ct, cm) (nI p)) ∧ (∀ post : Int32 → Prop, post e → wpY_inside post (yT, ytr, ep, yD, yE, lv, yt, c, a, stk, em, ce, po, yc, ye) (nI p)) ∧ (e = 0 → sk_Ok c a p) := by
  have e : c (nI p).toNatClampNeg = 27 := by rw [nI_clamp (n := p) (by omega)]; exact hc
  have e2 : a (nI p).toNatClampNeg = a p := by rw [nI_clamp (n := p) (by omega)]
  by_cases h : sk_R c p = []
  · have hs : sk_hs c (sk_R c p) = -1 := by rw [h]; rfl
    refine ⟨0, ?_, ?_, ?_⟩
    · intro post hpost
      exact ⟨vp_in_nI (n := p) hp (by decide), nm_r e (br_f (by decide) (br_f (by decide) (br_f (by decide) (br_f (by decide) (br_f (by decide) (br_f (by decide) (br_f (by decide) (br_f (by decide) (br_f (by decide) (br_f (by decide) (br_f (by decide) (br_f (by decide) (br_f (by decide) (br_f (by decide) (br_t rfl (sx_last h6 hL (br_f (by decide) (br_t (by decide) (br_t hs (br_f (by decide) hpost))))))))))))))))))))⟩
    · intro post hpost
      exact ⟨vp_in_nI (n := p) hp (by decide), nm_r e (sy_sort (Nat.le_of_lt hp) W1 (br_f (by decide) (br_f (by decide) (br_f (by decide) (br_f (by decide) (br_f (by decide) (br_f (by decide) (br_f (by decide) (br_f (by decide) (br_f (by decide) (br_f (by decide) (br_f (by decide) (br_t rfl (br_t (by rw [hs]; decide) (sy_opF (by decide) (br_t rfl hpost))))))))))))))))⟩
    · exact fun _ => ⟨⟨by rw [hc]; decide, by rw [hc]; decide, by rw [hc]; decide⟩, (fun y => absurd (hc.symm.trans y) (by decide)), (fun y => by rw [hc] at y; exact absurd y (by decide)), (fun y => absurd (hc.symm.trans y) (by decide)), (fun y => absurd (hc.symm.trans y) (by decide)), (fun y => absurd (hc.symm.trans y) (by decide)), (fun y => absurd (hc.symm.trans y) (by decide)), (fun y => absurd (hc.symm.trans y) (by decide)), (fun y => absurd (hc.symm.trans y) (by decide)), (fun y => absurd (hc.symm.trans y) (by decide)), (fun _ => h)⟩
  · have hs := sk_hsN h
    refine ⟨4, ?_, ?_, ?_⟩
    · intro post hpost
      exact ⟨vp_in_nI (n := p) hp (by decide), nm_r e (br_f (by decide) (br_f (by decide) (br_f (by decide) (br_f (by decide) (br_f (by decide) (br_f (by decide) (br_f (by decide) (br_f (by decide) (br_f (by decide) (br_f (by decide) (br_f (by decide) (br_f (by decide) (br_f (by decide) (br_f (by decide) (br_t rfl (sx_last h6 hL (br_f (by decide) (br_t (by decide) (br_f hs.2 (br_t rfl hpost))))))))))))))))))))⟩
    · intro post hpost
      exact ⟨vp_in_nI (n := p) hp (by decide), nm_r e (sy_sort (Nat.le_of_lt hp) W1 (br_f (by decide) (br_f (by decide) (br_f (by decide) (br_f (by decide) (br_f (by decide) (br_f (by decide) (br_f (by decide) (br_f (by decide) (br_f (by decide) (br_f (by decide) (br_f (by decide) (br_t rfl (br_f hs.1 hpost))))))))))))))⟩
    · exact fun y => absurd y (by decide)
theorem se_lo {p : Nat} (hp : p < 80) (h6 : (sk_R c p).length ≤ 6) (hL : sk_LA c ps pst psk (sk_R c p)) (hH : sk_HI c p (sk_R c p)) (W1 : ∀ q, q < p → (c q = 17 ∨ c q = 21) → sk_R c q ≠ []) (W2 : ∀ q, q < p → sk_cl (c q) → sk_R c q ≠ []) (h15 : c p < 15) : ∃ e : Int32, (∀ post : Int32 → Prop, post e → wpX_errorInside post (xT, tr, ep, ind, vc, nI (sk_R c p).length, xD, xE, cur, tu, ca, c, a, nm, nv, ps, pst, psk, jm, cp, stk, em, ce, rp, ct, cm) (nI p)) ∧ (∀ post : Int32 → Prop, post e → wpY_inside post (yT, ytr, ep, yD, yE, lv, yt, c, a, stk, em, ce, po, yc, ye) (nI p)) ∧ (e = 0 → sk_Ok c a p) := by
  have e : c (nI p).toNatClampNeg = c p := by rw [nI_clamp (n := p) (by omega)]
  have ne : ∀ k : Int32, ¬ k < 15 → ¬ c p = k := fun k hk y => hk (y ▸ h15)
  by_cases h0 : c p < 0
  · refine ⟨1, ?_, ?_, fun y => absurd y (by decide)⟩
    · intro post hpost
      exact ⟨vp_in_nI (n := p) hp (by decide), nm_r e (br_t h15 (br_t h0 hpost))⟩
    · intro post hpost
      exact ⟨vp_in_nI (n := p) hp (by decide), nm_r e (sy_sort (Nat.le_of_lt hp) W1 (br_t h0 hpost))⟩
  · have h14 : ¬ 14 < c p := by
      rw [Int32.lt_iff_toInt_lt] at h15 ⊢
      have i1 : (15 : Int32).toInt = 15 := by decide
      have i2 : (14 : Int32).toInt = 14 := by decide
      omega
    have h27 : ¬ 27 < c p := by
      rw [Int32.lt_iff_toInt_lt] at h15 ⊢
      have i1 : (15 : Int32).toInt = 15 := by decide
      have i2 : (27 : Int32).toInt = 27 := by decide
      omega
    refine ⟨0, ?_, ?_, fun _ => ?_⟩
    · intro post hpost
      exact ⟨vp_in_nI (n := p) hp (by decide), nm_r e (br_t h15 (br_f h0 (br_f h14 hpost)))⟩
    · intro post hpost
      exact ⟨vp_in_nI (n := p) hp (by decide), nm_r e (sy_sort (Nat.le_of_lt hp) W1 (br_f h0 (br_f h27 (br_f (ne 26 (by decide)) (br_f (ne 15 (by decide)) (br_f (ne 17 (by decide)) (br_f (ne 18 (by decide)) (br_f (ne 20 (by decide)) (br_f (ne 21 (by decide)) (br_f (ne 22 (by decide)) (br_f (ne 24 (by decide)) (br_f (ne 25 (by decide)) (br_f (ne 27 (by decide)) (sy_opF (fun y => by rcases y with y | y | y <;> exact ne _ (by decide) y) (br_t rfl hpost)))))))))))))))⟩
    · exact ⟨⟨h0, h27, ne 26 (by decide)⟩, fun y => absurd y (ne 15 (by decide)), fun y => absurd y (fun y => by rcases y with y | y | y <;> exact ne _ (by decide) y), fun y => absurd y (ne 17 (by decide)), fun y => absurd y (ne 18 (by decide)), fun y => absurd y (ne 20 (by decide)), fun y => absurd y (ne 21 (by decide)), fun y => absurd y (ne 22 (by decide)), fun y => absurd y (ne 24 (by decide)), fun y => absurd y (ne 25 (by decide)), fun y => absurd y (ne 27 (by decide))⟩
theorem se_hi {p : Nat} (hp : p < 80) (h6 : (sk_R c p).length ≤ 6) (hL : sk_LA c ps pst psk (sk_R c p)) (hH : sk_HI c p (sk_R c p)) (W1 : ∀ q, q < p → (c q = 17 ∨ c q = 21) → sk_R c q ≠ []) (W2 : ∀ q, q < p → sk_cl (c q) → sk_R c q ≠ []) (h27 : 27 < c p) : ∃ e : Int32, (∀ post : Int32 → Prop, post e → wpX_errorInside post (xT, tr, ep, ind, vc, nI (sk_R c p).length, xD, xE, cur, tu, ca, c, a, nm, nv, ps, pst, psk, jm, cp, stk, em, ce, rp, ct, cm) (nI p)) ∧ (∀ post : Int32 → Prop, post e → wpY_inside post (yT, ytr, ep, yD, yE, lv, yt, c, a, stk, em, ce, po, yc, ye) (nI p)) ∧ (e = 0 → sk_Ok c a p) := by
  have e : c (nI p).toNatClampNeg = c p := by rw [nI_clamp (n := p) (by omega)]
  have i3 : (27 : Int32).toInt = 27 := by decide
  have h15 : ¬ c p < 15 := by
    have i1 : (15 : Int32).toInt = 15 := by decide
    rw [Int32.lt_iff_toInt_lt] at h27 ⊢
    omega
  have h0 : ¬ c p < 0 := by
    have i1 : (0 : Int32).toInt = 0 := by decide
    rw [Int32.lt_iff_toInt_lt] at h27 ⊢
    omega
  have h14 : 14 < c p := by
    have i1 : (14 : Int32).toInt = 14 := by decide
    rw [Int32.lt_iff_toInt_lt] at h27 ⊢
    omega
  refine ⟨1, ?_, ?_, fun y => absurd y (by decide)⟩
  · intro post hpost
    exact ⟨vp_in_nI (n := p) hp (by decide), nm_r e (br_f h15 (br_t h27 (br_f h0 (br_t h14 hpost))))⟩
  · intro post hpost
    exact ⟨vp_in_nI (n := p) hp (by decide), nm_r e (sy_sort (Nat.le_of_lt hp) W1 (br_f h0 (br_t h27 hpost)))⟩
theorem se_26 {p : Nat} (hp : p < 80) (h6 : (sk_R c p).length ≤ 6) (hL : sk_LA c ps pst psk (sk_R c p)) (hH : sk_HI c p (sk_R c p)) (W1 : ∀ q, q < p → (c q = 17 ∨ c q = 21) → sk_R c q ≠ []) (W2 : ∀ q, q < p → sk_cl (c q) → sk_R c q ≠ []) (hc : c p = 26) : ∃ e : Int32, (∀ post : Int32 → Prop, post e → wpX_errorInside post (xT, tr, ep, ind, vc, nI (sk_R c p).length, xD, xE, cur, tu, ca, c, a, nm, nv, ps, pst, psk, jm, cp, stk, em, ce, rp, ct, cm) (nI p)) ∧ (∀ post : Int32 → Prop, post e → wpY_inside post (yT, ytr, ep, yD, yE, lv, yt, c, a, stk, em, ce, po, yc, ye) (nI p)) ∧ (e = 0 → sk_Ok c a p) := by
  have e : c (nI p).toNatClampNeg = 26 := by rw [nI_clamp (n := p) (by omega)]; exact hc
  refine ⟨1, ?_, ?_, fun y => absurd y (by decide)⟩
  · intro post hpost
    exact ⟨vp_in_nI (n := p) hp (by decide), nm_r e (br_f (by decide) (br_f (by decide) (br_f (by decide) (br_f (by decide) (br_f (by decide) (br_f (by decide) (br_f (by decide) (br_f (by decide) (br_f (by decide) (br_f (by decide) (br_f (by decide) (br_f (by decide) (br_f (by decide) (br_t rfl (br_f (by decide) (br_t (by decide) hpost))))))))))))))))⟩
  · intro post hpost
    exact ⟨vp_in_nI (n := p) hp (by decide), nm_r e (sy_sort (Nat.le_of_lt hp) W1 (br_f (by decide) (br_f (by decide) (br_t rfl hpost))))⟩
theorem sk_cases (x : Int32) : x < 15 ∨ 27 < x ∨ x = 15 ∨ x = 16 ∨ x = 17 ∨ x = 18 ∨ x = 19 ∨ x = 20 ∨ x = 21 ∨ x = 22 ∨ x = 23 ∨ x = 24 ∨ x = 25 ∨ x = 26 ∨ x = 27 := by
  by_cases h1 : x < 15
  · exact Or.inl h1
  · by_cases h2 : 27 < x
    · exact Or.inr (Or.inl h2)
    · refine Or.inr (Or.inr ?_)
      have h0 : ¬ x < 0 := by
        rw [Int32.lt_iff_toInt_lt] at h1 ⊢
        have i1 : (15 : Int32).toInt = 15 := by decide
        have i2 : (0 : Int32).toInt = 0 := by decide
        omega
      obtain ⟨j, hj, rfl⟩ := nI_of2 (M := 27) (n := 27) (by decide) h0 (Int32.not_lt.mp h2)
      have hj1 : 15 ≤ j := by
        have := (nI_ltI (a := j) (b := 15) (by omega) (by omega))
        have h1' : ¬ nI j < nI 15 := h1
        rw [this] at h1'
        omega
      have : j = 15 ∨ j = 16 ∨ j = 17 ∨ j = 18 ∨ j = 19 ∨ j = 20 ∨ j = 21 ∨ j = 22 ∨ j = 23 ∨ j = 24 ∨ j = 25 ∨ j = 26 ∨ j = 27 := by omega
      rcases this with h | h | h | h | h | h | h | h | h | h | h | h | h <;> subst h <;> decide
theorem se_all {p : Nat} (hp : p < 80) (h6 : (sk_R c p).length ≤ 6) (hL : sk_LA c ps pst psk (sk_R c p)) (hH : sk_HI c p (sk_R c p)) (W1 : ∀ q, q < p → (c q = 17 ∨ c q = 21) → sk_R c q ≠ []) (W2 : ∀ q, q < p → sk_cl (c q) → sk_R c q ≠ []) : ∃ e : Int32, (∀ post : Int32 → Prop, post e → wpX_errorInside post (xT, tr, ep, ind, vc, nI (sk_R c p).length, xD, xE, cur, tu, ca, c, a, nm, nv, ps, pst, psk, jm, cp, stk, em, ce, rp, ct, cm) (nI p)) ∧ (∀ post : Int32 → Prop, post e → wpY_inside post (yT, ytr, ep, yD, yE, lv, yt, c, a, stk, em, ce, po, yc, ye) (nI p)) ∧ (e = 0 → sk_Ok c a p) := by
  rcases sk_cases (c p) with h | h | h | h | h | h | h | h | h | h | h | h | h | h | h
  · exact se_lo hp h6 hL hH W1 W2 h
  · exact se_hi hp h6 hL hH W1 W2 h
  · exact se_15 hp h6 hL hH W1 W2 h
  · exact se_16 hp h6 hL hH W1 W2 h
  · exact se_17 hp h6 hL hH W1 W2 h
  · exact se_18 hp h6 hL hH W1 W2 h
  · exact se_19 hp h6 hL hH W1 W2 h
  · exact se_20 hp h6 hL hH W1 W2 h
  · exact se_21 hp h6 hL hH W1 W2 h
  · exact se_22 hp h6 hL hH W1 W2 h
  · exact se_23 hp h6 hL hH W1 W2 h
  · exact se_24 hp h6 hL hH W1 W2 h
  · exact se_25 hp h6 hL hH W1 W2 h
  · exact se_26 hp h6 hL hH W1 W2 h
  · exact se_27 hp h6 hL hH W1 W2 h
end
end
section
def sk_J (c jm : Nat → Int32) (T q : Nat) : Prop :=
  ((c q = 16 ∨ c q = 17 ∨ c q = 21 ∨ c q = 23) → ∃ b, q < b ∧ b < T ∧ jm q = nI (b + 1) ∧ sk_bh c (decide (c q = 16)) (T - (q + 1)) (q + 1) 0 = b ∧ sk_in c (b + 1) = 1 ∧ ∀ x, x ∈ sk_R c (b + 1) → c x.1 = 23 → ∃ k, (x.1, k) ∈ sk_R c q)
  ∧ ((c q = 20 ∨ c q = 22 ∨ c q = 24) → ∃ s k t, sk_R c q = (s, k) :: t ∧ jm q = nI (s + 1))
def sk_C (c cp : Nat → Int32) (q : Nat) : Prop :=
  (c q = 23 → cp q = nI (sk_R c q).length) ∧ (c q = 24 → ∃ s k t, sk_R c q = (s, k) :: t ∧ cp q = nI t.length) ∧ (c q = 25 → cp q = sk_ti c (sk_R c q))
def sk_N (c a : Nat → Int32) (p : Nat) (nm nv : Nat → Int32) : Prop :=
  ∀ n, n < 12 → (nm n = 0 ∧ ∀ q, q < p → ¬ sk_df c a q (nI n)) ∨ (∃ q, q < p ∧ sk_df c a q (nI n) ∧ (∀ r, r < q → ¬ sk_df c a r (nI n)) ∧ ((c q = 26 ∧ nm n = 1 ∧ nv n = nI (q + 1)) ∨ (c q = 28 ∧ nm n = 2 ∧ nv n = nI (sk_vs c q))))
def sk_cv (nm : Nat → Int32) : Nat → Nat
  | 0 => 0
  | n + 1 => if nm n = 2 then sk_cv nm n + 1 else sk_cv nm n
theorem sk_cvle (nm : Nat → Int32) : ∀ n, sk_cv nm n ≤ n
  | 0 => Nat.le_refl _
  | n + 1 => by
    have := sk_cvle nm n
    rw [sk_cv]
    split <;> omega
theorem sk_cvo (nm : Nat → Int32) (j : Nat) (x : Int32) : ∀ n, n ≤ j → sk_cv (upd nm j x) n = sk_cv nm n
  | 0, _ => rfl
  | n + 1, h => by rw [sk_cv, sk_cv, pk_un (by omega), sk_cvo nm j x n (by omega)]
theorem sk_cv1 (nm : Nat → Int32) (j : Nat) (h0 : nm j ≠ 2) (x : Int32) (hx : x ≠ 2) : ∀ n, sk_cv (upd nm j x) n = sk_cv nm n
  | 0 => rfl
  | n + 1 => by
    rw [sk_cv, sk_cv, sk_cv1 nm j h0 x hx n]
    by_cases e : n = j
    · subst e; rw [pk_us, if_neg hx, if_neg h0]
    · rw [pk_un e]
theorem sk_cv2 (nm : Nat → Int32) (j : Nat) (h0 : nm j ≠ 2) : ∀ n, j < n → sk_cv (upd nm j 2) n = sk_cv nm n + 1
  | 0, h => by omega
  | n + 1, h => by
    rw [sk_cv, sk_cv]
    by_cases e : n = j
    · subst e; rw [pk_us, if_pos rfl, if_neg h0, sk_cvo nm n 2 n (Nat.le_refl _)]
    · rw [pk_un e, sk_cv2 nm j h0 n (by omega)]
      split <;> omega
def sk_I (T p : Nat) (c a : Nat → Int32) (ind vc pc : Int32) (nm nv ps pst psk jm cp : Nat → Int32) : Prop :=
  ind = sk_in c p ∧ vc = nI (sk_vs c p) ∧ pc = nI (sk_R c p).length ∧ (sk_R c p).length ≤ 6 ∧ (∀ q, q < p → sk_Tk c a q) ∧ sk_LA c ps pst psk (sk_R c p) ∧ sk_N c a p nm nv ∧ sk_vs c p = sk_cv nm 12
  ∧ (∀ q, q < p → (∀ x, x ∈ sk_R c p → x.2 ≠ q) → sk_J c jm T q) ∧ (∀ q, q < p → sk_C c cp q)
theorem sk_Jc {c jm jm' : Nat → Int32} {T q : Nat} (e : jm' q = jm q) (h : sk_J c jm T q) : sk_J c jm' T q := by
  unfold sk_J at h ⊢
  rw [e]
  exact h
theorem sk_Cc {c cp cp' : Nat → Int32} {q : Nat} (e : cp' q = cp q) (h : sk_C c cp q) : sk_C c cp' q := by
  unfold sk_C at h ⊢
  rw [e]
  exact h
theorem sk_Nin {c a nm nv : Nat → Int32} {p : Nat} (h1 : c p ≠ 26) (h2 : c p ≠ 28) (h : sk_N c a p nm nv) : sk_N c a (p + 1) nm nv := by
  intro n hn
  rcases h n hn with ⟨e, z⟩ | ⟨q, hq, z⟩
  · refine Or.inl ⟨e, fun q hq => ?_⟩
    by_cases y : q = p
    · subst y
      exact fun w => w.1.elim h1 h2
    · exact z q (by omega)
  · exact Or.inr ⟨q, by omega, z⟩
theorem sk_vsin {c : Nat → Int32} {p : Nat} (h : c p ≠ 28) : sk_vs c (p + 1) = sk_vs c p := by rw [sk_vs, if_neg h]
theorem sk_lts {p : Nat} {P : Nat → Prop} (h : ∀ q, q < p → P q) (h' : P p) : ∀ q, q < p + 1 → P q := by
  intro q hq
  by_cases y : q = p
  · subst y; exact h'
  · exact h q (by omega)
/-- the part that ends, or changes, at p: where its token goes on -/
theorem sk_Jend {c a jm : Nat → Int32} {T p s k : Nat} {t : List (Nat × Nat)} (hT : p < T) (hq : ∀ q, q < p → sk_Tk c a q) (hR : sk_R c p = (s, k) :: t) (hm : sk_cl (c p) ∨ (c k = 16 ∧ c p = 17)) (hi : sk_in c (p + 1) = 1) (hj : jm k = nI (p + 1))
    (hR' : sk_R c (p + 1) = t ∨ (sk_R c (p + 1) = (s, p) :: t ∧ c s ≠ 23)) : sk_J c jm T k := by
  have H := (sk_HIa hq).1
  have K := sk_SKa (c := c) (a := a) (T := T) (p := p) (by omega) hq
  have kk := sk_Rk c p (s, k) (by rw [hR]; exact List.mem_cons_self ..)
  rw [hR] at H K
  obtain ⟨h1, h2, h3, h4, h5, h6, h7, h8, h9⟩ := H
  refine ⟨fun hk => ⟨p, h4, hT, hj, ?_, hi, ?_⟩, fun hk => ?_⟩
  · rw [K.1 (by rcases hk with y | y | y | y <;> rw [y] <;> decide)]
    refine sk_bhT hT ⟨rfl, ?_⟩
    rcases hm with y | y
    · exact Or.inl y
    · exact Or.inr ⟨by rw [y.1]; rfl, y.2⟩
  · intro x hx hc
    have : x ∈ t := by
      rcases hR' with y | y
      · rw [y] at hx; exact hx
      · rw [y.1] at hx
        rcases List.mem_cons.mp hx with z | z
        · subst z; exact absurd hc y.2
        · exact z
    refine ⟨x.2, ?_⟩
    rcases h7 with y | ⟨k', y⟩
    · rw [y, h1]; exact this
    · rw [y]; exact List.mem_cons_of_mem _ this
  · rcases kk with (y | y | y) | y | y <;> (have y' : c k = _ := y) <;> rw [y'] at hk <;> exact absurd hk (by decide)
section
variable {xT tr ep ind vc pc xD xE cur tu ca : Int32} {c a nm nv ps pst psk jm cp stk em ce rp ct cm : Nat → Int32}
theorem sx_68 {post : SX → Prop} {p m : Nat} (hp : p < 80) (hm : m < 6) (h : post (xT, tr, ep, ind, vc, nI (m + 1), xD, xE, cur, tu, ca, c, a, nm, nv, upd ps m (c p), upd pst m (nI p), upd psk m (nI p), jm, upd cp p (nI m), stk, em, ce, rp, ct, cm)) : wX_arrangeParts_68 post (nI p) xT tr ep ind vc (nI m) xD xE cur tu ca c a nm nv ps pst psk jm cp stk em ce rp ct cm := by
  have V : ∀ {N : Nat}, N = 80 → vp_in (nI p) N := fun e => by rw [e]; exact vp_in_nI (n := p) (by omega) (by decide)
  have V6 : ∀ {N : Nat}, N = 6 → vp_in (nI m) N := fun e => by rw [e]; exact vp_in_nI (n := m) (by omega) (by decide)
  refine ⟨V rfl, V6 rfl, ?_⟩
  rw [nI_clamp (n := p) (by omega), nI_clamp (n := m) (by omega)]
  exact nm_e ⟨V6 rfl, nm_e ⟨V6 rfl, nm_e ⟨V rfl, nm_e (nm_r (nI_1 m) h)⟩⟩⟩
theorem sx_76 {post : SX → Prop} {p m k : Nat} (hp : p < 80) (hm : m < 6) (hk : k < 80) (e : psk m = nI k) (h : post (xT, tr, ep, ind, vc, nI (m + 1), xD, xE, cur, tu, ca, c, a, nm, nv, upd ps m (c p), pst, upd psk m (nI p), upd jm k (nI (p + 1)), cp, stk, em, ce, rp, ct, cm)) : wX_arrangeParts_76 post (nI p) xT tr ep ind vc (nI (m + 1)) xD xE cur tu ca c a nm nv ps pst psk jm cp stk em ce rp ct cm := by
  have V : ∀ {N : Nat}, N = 80 → vp_in (nI p) N := fun e => by rw [e]; exact vp_in_nI (n := p) (by omega) (by decide)
  have V6 : ∀ {N : Nat}, N = 6 → vp_in (nI m) N := fun e => by rw [e]; exact vp_in_nI (n := m) (by omega) (by decide)
  refine nm_r (nI_pred m) ⟨V6 rfl, ?_⟩
  rw [nI_clamp (n := p) (by omega), nI_clamp (n := m) (by omega), e, nI_clamp (n := k) (by omega)]
  exact ⟨vp_in_nI hk (by decide), nm_r (by rw [nI_1]) ⟨V6 rfl, nm_e ⟨V rfl, V6 rfl, nm_e h⟩⟩⟩
theorem sx_84 {post : SX → Prop} {p m k s : Nat} (hp : p < 80) (hm : m < 6) (hk : k < 80) (e : psk m = nI k) (es : pst m = nI s) (h : post (xT, tr, ep, ind, vc, nI m, xD, xE, cur, tu, ca, c, a, nm, nv, ps, pst, psk, upd (upd jm k (nI (p + 1))) p (nI (s + 1)), upd cp p (nI m), stk, em, ce, rp, ct, cm)) : wX_arrangeParts_84 post (nI p) xT tr ep ind vc (nI (m + 1)) xD xE cur tu ca c a nm nv ps pst psk jm cp stk em ce rp ct cm := by
  have V : ∀ {N : Nat}, N = 80 → vp_in (nI p) N := fun e => by rw [e]; exact vp_in_nI (n := p) (by omega) (by decide)
  have V6 : ∀ {N : Nat}, N = 6 → vp_in (nI m) N := fun e => by rw [e]; exact vp_in_nI (n := m) (by omega) (by decide)
  refine nm_r (nI_pred m) ⟨V6 rfl, ?_⟩
  rw [nI_clamp (n := p) (by omega), nI_clamp (n := m) (by omega), e, nI_clamp (n := k) (by omega), es]
  exact ⟨vp_in_nI hk (by decide), nm_r (by rw [nI_1]) ⟨V6 rfl, V rfl, nm_r (by rw [nI_1]) ⟨V rfl, nm_e h⟩⟩⟩
section
variable {T p : Nat}
theorem sg_pl (h0 : c p < 16 ∨ c p = 25 ∨ c p = 27) : ¬ sk_op (c p) ∧ ¬ sk_cl (c p) ∧ ¬ (c p = 17 ∨ c p = 21) := by
  rcases h0 with h | h | h
  · refine ⟨fun y => ?_, fun y => ?_, fun y => ?_⟩
    · rcases y with y | y | y <;> rw [y] at h <;> exact absurd h (by decide)
    · rcases y with y | y | y | y <;> rw [y] at h <;> exact absurd h (by decide)
    · rcases y with y | y <;> rw [y] at h <;> exact absurd h (by decide)
  · rw [h]; decide
  · rw [h]; decide
theorem sg_28 (O : sk_Ok c a p) : c p ≠ 28 := fun y => O.1.2.1 (by rw [y]; decide)
theorem sg_T (I : sk_I T p c a ind vc pc nm nv ps pst psk jm cp) (hi : sk_in c p = 1) (O : sk_Ok c a p) : ∀ q, q < p + 1 → sk_Tk c a q :=
  sk_lts I.2.2.2.2.1 ⟨fun y => absurd (y.symm.trans hi) (by decide), fun _ => O⟩
theorem sg_lo (I : sk_I T p c a ind vc pc nm nv ps pst psk jm cp) (hi : sk_in c p = 1) (O : sk_Ok c a p) (h0 : c p < 16 ∨ c p = 25 ∨ c p = 27) {cp' : Nat → Int32} (hcp : ∀ q, q ≠ p → cp' q = cp q) (hc25 : c p = 25 → cp' p = sk_ti c (sk_R c p)) : sk_I T (p + 1) c a (sk_in c (p + 1)) vc pc nm nv ps pst psk jm cp' := by
  have TT := sg_T I hi O
  obtain ⟨i1, i2, i3, i4, i5, i6, i7, i8, i9, i10⟩ := I
  have g := sg_pl h0
  have e := sk_Rpl g.1 g.2.1 g.2.2 O.1.2.2
  have n28 := sg_28 O
  have nn : ∀ k : Int32, (¬ k < 16) → k ≠ 25 → k ≠ 27 → c p ≠ k := by
    intro k h1 h2 h3 y
    rcases h0 with h | h | h
    · exact h1 (y ▸ h)
    · exact h2 (y.symm.trans h)
    · exact h3 (y.symm.trans h)
  refine ⟨rfl, by rw [sk_vsin n28]; exact i2, by rw [e]; exact i3, by rw [e]; exact i4, TT, by rw [e]; exact i6, sk_Nin O.1.2.2 n28 i7, by rw [sk_vsin n28]; exact i8, ?_, ?_⟩
  · rw [e]
    refine sk_lts i9 (fun _ => ⟨fun y => ?_, fun y => ?_⟩)
    · rcases y with y | y | y | y <;> exact absurd y (nn _ (by decide) (by decide) (by decide))
    · rcases y with y | y | y <;> exact absurd y (nn _ (by decide) (by decide) (by decide))
  · refine sk_lts (fun q hq => sk_Cc (hcp q (by omega)) (i10 q hq)) ⟨fun y => absurd y (nn _ (by decide) (by decide) (by decide)), fun y => absurd y (nn _ (by decide) (by decide) (by decide)), hc25⟩
theorem sg_op (I : sk_I T p c a ind vc pc nm nv ps pst psk jm cp) (hi : sk_in c p = 1) (O : sk_Ok c a p) (h0 : sk_op (c p)) : sk_I T (p + 1) c a ind vc (nI ((sk_R c p).length + 1)) nm nv (upd ps (sk_R c p).length (c p)) (upd pst (sk_R c p).length (nI p)) (upd psk (sk_R c p).length (nI p)) jm (upd cp p (nI (sk_R c p).length)) := by
  have TT := sg_T I hi O
  obtain ⟨i1, i2, i3, i4, i5, i6, i7, i8, i9, i10⟩ := I
  have n28 := sg_28 O
  have n27 : c p ≠ 27 := by rcases h0 with h | h | h <;> rw [h] <;> decide
  have e := sk_Rop h0
  have l6 := O.2.2.1 h0
  refine ⟨by rw [sk_inS O.1.2.2 n27]; exact i1, by rw [sk_vsin n28]; exact i2, by rw [e]; rfl, by rw [e, List.length_cons]; omega, TT, ?_, sk_Nin O.1.2.2 n28 i7, by rw [sk_vsin n28]; exact i8, ?_, ?_⟩
  · rw [e]
    exact ⟨⟨pk_us, pk_us, pk_us⟩, sk_LAu (Nat.le_refl _) i6⟩
  · rw [e]
    refine sk_lts (fun q hq hx => i9 q hq (fun x h => hx x (List.mem_cons_of_mem _ h))) (fun hx => absurd rfl (hx (p, p) (List.mem_cons_self ..)))
  · refine sk_lts (fun q hq => sk_Cc (pk_un (by omega)) (i10 q hq)) ⟨fun _ => pk_us, fun y => ?_, fun y => ?_⟩
    · rw [y] at h0; exact absurd h0 (by decide)
    · rw [y] at h0; exact absurd h0 (by decide)
theorem sg_ch (hT : p < T) (I : sk_I T p c a ind vc pc nm nv ps pst psk jm cp) (hi : sk_in c p = 1) (O : sk_Ok c a p) (h0 : (c p = 17 ∧ sk_hs c (sk_R c p) = 16) ∨ (c p = 21 ∧ sk_hs c (sk_R c p) = 19)) {s k : Nat} {t : List (Nat × Nat)} (hR : sk_R c p = (s, k) :: t) : sk_I T (p + 1) c a ind vc pc nm nv (upd ps t.length (c p)) pst (upd psk t.length (nI p)) (upd jm k (nI (p + 1))) cp := by
  have TT := sg_T I hi O
  obtain ⟨i1, i2, i3, i4, i5, i6, i7, i8, i9, i10⟩ := I
  have n28 := sg_28 O
  have h1 : c p = 17 ∨ c p = 21 := h0.elim (fun h => Or.inl h.1) (fun h => Or.inr h.1)
  have n27 : c p ≠ 27 := by rcases h1 with h | h <;> rw [h] <;> decide
  have e := sk_Rch h1
  rw [hR] at e i3 i4 i6 i9 h0
  have e : sk_R c (p + 1) = (s, p) :: t := e
  have hin : sk_in c (p + 1) = 1 := by rw [sk_inS O.1.2.2 n27]; exact hi
  have HH := (sk_HIa i5).1
  rw [hR] at HH
  refine ⟨by rw [sk_inS O.1.2.2 n27]; exact i1, by rw [sk_vsin n28]; exact i2, by rw [e]; exact i3, by rw [e]; exact i4, TT, ?_, sk_Nin O.1.2.2 n28 i7, by rw [sk_vsin n28]; exact i8, ?_, ?_⟩
  · rw [e]
    exact ⟨⟨pk_us, i6.1.2.1, pk_us⟩, sk_LAv (Nat.le_refl _) i6.2⟩
  · rw [e]
    intro q hq hx
    have qp : q ≠ p := fun y => hx (s, p) (List.mem_cons_self ..) y.symm
    by_cases qk : q = k
    · subst qk
      rcases h0 with ⟨h17, hs⟩ | ⟨h21, hs⟩
      · have hs : c q = 16 := hs
        refine sk_Jend hT i5 hR (Or.inr ⟨hs, h17⟩) hin pk_us (Or.inr ⟨e, ?_⟩)
        intro y
        have := HH.2.2.2.2.2.2.2.1.mpr y
        rw [hs] at this
        exact absurd this (by decide)
      · have hs : c q = 19 := hs
        refine ⟨fun y => ?_, fun y => ?_⟩
        · rw [hs] at y; exact absurd y (by decide)
        · rw [hs] at y; exact absurd y (by decide)
    · refine sk_Jc (pk_un qk) (i9 q (by omega) (fun x h => ?_))
      rcases List.mem_cons.mp h with h | h
      · subst h; exact fun y => qk y.symm
      · exact hx x (List.mem_cons_of_mem _ h)
  · refine sk_lts i10 ⟨fun y => ?_, fun y => ?_, fun y => ?_⟩ <;> rcases h1 with h | h <;> rw [h] at y <;> exact absurd y (by decide)
theorem sg_cl (hT : p < T) (I : sk_I T p c a ind vc pc nm nv ps pst psk jm cp) (hi : sk_in c p = 1) (O : sk_Ok c a p) (h0 : sk_cl (c p)) {s k : Nat} {t : List (Nat × Nat)} (hR : sk_R c p = (s, k) :: t) : sk_I T (p + 1) c a ind vc (nI t.length) nm nv ps pst psk (upd (upd jm k (nI (p + 1))) p (nI (s + 1))) (upd cp p (nI t.length)) := by
  have TT := sg_T I hi O
  obtain ⟨i1, i2, i3, i4, i5, i6, i7, i8, i9, i10⟩ := I
  have n28 := sg_28 O
  have n27 : c p ≠ 27 := by rcases h0 with h | h | h | h <;> rw [h] <;> decide
  have e := sk_Rcl h0
  rw [hR] at e i3 i4 i6 i9
  have e : sk_R c (p + 1) = t := e
  have hin : sk_in c (p + 1) = 1 := by rw [sk_inS O.1.2.2 n27]; exact hi
  have HH := (sk_HIa i5).1
  rw [hR] at HH
  have kp : k < p := HH.2.2.2.1
  rw [List.length_cons] at i4
  refine ⟨by rw [sk_inS O.1.2.2 n27]; exact i1, by rw [sk_vsin n28]; exact i2, by rw [e], by rw [e]; omega, TT, by rw [e]; exact i6.2, sk_Nin O.1.2.2 n28 i7, by rw [sk_vsin n28]; exact i8, ?_, ?_⟩
  · rw [e]
    intro q hq hx
    by_cases qp : q = p
    · subst qp
      refine ⟨fun y => ?_, fun _ => ⟨s, k, t, hR, pk_us⟩⟩
      rcases y with y | y | y | y <;> rw [y] at h0 <;> exact absurd h0 (by decide)
    · by_cases qk : q = k
      · subst qk
        exact sk_Jend hT i5 hR (Or.inl h0) hin (by rw [pk_un qp]; exact pk_us) (Or.inl e)
      · refine sk_Jc (by rw [pk_un qp, pk_un qk]) (i9 q (by omega) (fun x h => ?_))
        rcases List.mem_cons.mp h with h | h
        · subst h; exact fun y => qk y.symm
        · exact hx x h
  · refine sk_lts (fun q hq => sk_Cc (pk_un (by omega)) (i10 q hq)) ⟨fun y => ?_, fun _ => ⟨s, k, t, hR, pk_us⟩, fun y => ?_⟩
    · rw [y] at h0; exact absurd h0 (by decide)
    · rw [y] at h0; exact absurd h0 (by decide)
end
end
end
section
section
variable {xT tr ep ind vc pc xD xE cur tu ca yT yD yE lv yt : Int32} {c a nm nv ps pst psk jm cp stk em ce rp ct cm po yc ye : Nat → Int32}
variable {T p : Nat} {ytr : Int32}
theorem sg_a0 (hT : p < T) (h80 : T ≤ 80) (I : sk_I T p c a ind vc pc nm nv ps pst psk jm cp) (hi : sk_in c p = 1) (O : sk_Ok c a p) (h : c p < 16) : ∃ (ind0 pc0 : Int32) (ps0 pst0 psk0 jm0 cp0 : Nat → Int32), (∀ post : SX → Prop, post (xT, tr, ep, ind0, vc, pc0, xD, xE, cur, tu, ca, c, a, nm, nv, ps0, pst0, psk0, jm0, cp0, stk, em, ce, rp, ct, cm) → wpX_arrangeParts post (xT, tr, ep, ind, vc, pc, xD, xE, cur, tu, ca, c, a, nm, nv, ps, pst, psk, jm, cp, stk, em, ce, rp, ct, cm) (nI p)) ∧ sk_I T (p + 1) c a ind0 vc pc0 nm nv ps0 pst0 psk0 jm0 cp0 := by
  have e : c (nI p).toNatClampNeg = c p := by rw [nI_clamp (n := p) (by omega)]
  refine ⟨_, _, _, _, _, _, _, fun post hpost => ⟨vp_in_nI (n := p) (by omega) (by decide), nm_r e (br_t h hpost)⟩, ?_⟩
  have n27 : c p ≠ 27 := fun y => by rw [y] at h; exact absurd h (by decide)
  have K := sg_lo I hi O (Or.inl h) (fun _ _ => rfl) (fun y => by rw [y] at h; exact absurd h (by decide))
  rw [sk_inS O.1.2.2 n27, ← I.1] at K
  exact K
theorem sg_a16 (hT : p < T) (h80 : T ≤ 80) (I : sk_I T p c a ind vc pc nm nv ps pst psk jm cp) (hi : sk_in c p = 1) (O : sk_Ok c a p) (h : c p = 16) : ∃ (ind0 pc0 : Int32) (ps0 pst0 psk0 jm0 cp0 : Nat → Int32), (∀ post : SX → Prop, post (xT, tr, ep, ind0, vc, pc0, xD, xE, cur, tu, ca, c, a, nm, nv, ps0, pst0, psk0, jm0, cp0, stk, em, ce, rp, ct, cm) → wpX_arrangeParts post (xT, tr, ep, ind, vc, pc, xD, xE, cur, tu, ca, c, a, nm, nv, ps, pst, psk, jm, cp, stk, em, ce, rp, ct, cm) (nI p)) ∧ sk_I T (p + 1) c a ind0 vc pc0 nm nv ps0 pst0 psk0 jm0 cp0 := by
  have e : c (nI p).toNatClampNeg = 16 := by rw [nI_clamp (n := p) (by omega)]; exact h
  have h0 : sk_op (c p) := by rw [h]; decide
  have K := sg_op I hi O h0
  have e3 := I.2.2.1
  subst e3
  refine ⟨_, _, _, _, _, _, _, fun post hpost => ⟨vp_in_nI (n := p) (by omega) (by decide), nm_r e (br_f (by decide) (br_f (by decide) (br_t rfl (sx_68 (by omega) (O.2.2.1 h0) hpost))))⟩, K⟩
theorem sg_a19 (hT : p < T) (h80 : T ≤ 80) (I : sk_I T p c a ind vc pc nm nv ps pst psk jm cp) (hi : sk_in c p = 1) (O : sk_Ok c a p) (h : c p = 19) : ∃ (ind0 pc0 : Int32) (ps0 pst0 psk0 jm0 cp0 : Nat → Int32), (∀ post : SX → Prop, post (xT, tr, ep, ind0, vc, pc0, xD, xE, cur, tu, ca, c, a, nm, nv, ps0, pst0, psk0, jm0, cp0, stk, em, ce, rp, ct, cm) → wpX_arrangeParts post (xT, tr, ep, ind, vc, pc, xD, xE, cur, tu, ca, c, a, nm, nv, ps, pst, psk, jm, cp, stk, em, ce, rp, ct, cm) (nI p)) ∧ sk_I T (p + 1) c a ind0 vc pc0 nm nv ps0 pst0 psk0 jm0 cp0 := by
  have e : c (nI p).toNatClampNeg = 19 := by rw [nI_clamp (n := p) (by omega)]; exact h
  have h0 : sk_op (c p) := by rw [h]; decide
  have K := sg_op I hi O h0
  have e3 := I.2.2.1
  subst e3
  refine ⟨_, _, _, _, _, _, _, fun post hpost => ⟨vp_in_nI (n := p) (by omega) (by decide), nm_r e (br_f (by decide) (br_f (by decide) (br_f (by decide) (br_f (by decide) (br_f (by decide) (br_t rfl (sx_68 (by omega) (O.2.2.1 h0) hpost)))))))⟩, K⟩
theorem sg_a23 (hT : p < T) (h80 : T ≤ 80) (I : sk_I T p c a ind vc pc nm nv ps pst psk jm cp) (hi : sk_in c p = 1) (O : sk_Ok c a p) (h : c p = 23) : ∃ (ind0 pc0 : Int32) (ps0 pst0 psk0 jm0 cp0 : Nat → Int32), (∀ post : SX → Prop, post (xT, tr, ep, ind0, vc, pc0, xD, xE, cur, tu, ca, c, a, nm, nv, ps0, pst0, psk0, jm0, cp0, stk, em, ce, rp, ct, cm) → wpX_arrangeParts post (xT, tr, ep, ind, vc, pc, xD, xE, cur, tu, ca, c, a, nm, nv, ps, pst, psk, jm, cp, stk, em, ce, rp, ct, cm) (nI p)) ∧ sk_I T (p + 1) c a ind0 vc pc0 nm nv ps0 pst0 psk0 jm0 cp0 := by
  have e : c (nI p).toNatClampNeg = 23 := by rw [nI_clamp (n := p) (by omega)]; exact h
  have h0 : sk_op (c p) := by rw [h]; decide
  have K := sg_op I hi O h0
  have e3 := I.2.2.1
  subst e3
  refine ⟨_, _, _, _, _, _, _, fun post hpost => ⟨vp_in_nI (n := p) (by omega) (by decide), nm_r e (br_f (by decide) (br_f (by decide) (br_f (by decide) (br_f (by decide) (br_f (by decide) (br_f (by decide) (br_f (by decide) (br_f (by decide) (br_f (by decide) (br_t rfl (sx_68 (by omega) (O.2.2.1 h0) hpost)))))))))))⟩, K⟩
theorem sg_a17 (hT : p < T) (h80 : T ≤ 80) (I : sk_I T p c a ind vc pc nm nv ps pst psk jm cp) (hi : sk_in c p = 1) (O : sk_Ok c a p) (h : c p = 17) : ∃ (ind0 pc0 : Int32) (ps0 pst0 psk0 jm0 cp0 : Nat → Int32), (∀ post : SX → Prop, post (xT, tr, ep, ind0, vc, pc0, xD, xE, cur, tu, ca, c, a, nm, nv, ps0, pst0, psk0, jm0, cp0, stk, em, ce, rp, ct, cm) → wpX_arrangeParts post (xT, tr, ep, ind, vc, pc, xD, xE, cur, tu, ca, c, a, nm, nv, ps, pst, psk, jm, cp, stk, em, ce, rp, ct, cm) (nI p)) ∧ sk_I T (p + 1) c a ind0 vc pc0 nm nv ps0 pst0 psk0 jm0 cp0 := by
  have e : c (nI p).toNatClampNeg = 17 := by rw [nI_clamp (n := p) (by omega)]; exact h
  have hs : sk_hs c (sk_R c p) = 16 := O.2.2.2.1 h
  obtain ⟨⟨s, k⟩, t, hR⟩ : ∃ x t, sk_R c p = x :: t := by
    cases hL : sk_R c p with
    | nil => exact absurd hL (sk_hs0 hs (by decide))
    | cons x t => exact ⟨x, t, rfl⟩
  have K := sg_ch hT I hi O (Or.inl ⟨h, hs⟩) hR
  have HH := (sk_HIa I.2.2.2.2.1).1
  have e3 := I.2.2.1
  have e4 := I.2.2.2.1
  have e6 := I.2.2.2.2.2.1
  rw [hR] at HH e3 e4 e6
  rw [List.length_cons] at e3 e4
  have kp : k < p := HH.2.2.2.1
  subst e3
  refine ⟨_, _, _, _, _, _, _, fun post hpost => ⟨vp_in_nI (n := p) (by omega) (by decide), nm_r e (br_f (by decide) (br_f (by decide) (br_f (by decide) (br_t rfl (sx_76 (by omega) (by omega) (by omega) e6.1.2.2 hpost)))))⟩, K⟩
theorem sg_a21 (hT : p < T) (h80 : T ≤ 80) (I : sk_I T p c a ind vc pc nm nv ps pst psk jm cp) (hi : sk_in c p = 1) (O : sk_Ok c a p) (h : c p = 21) : ∃ (ind0 pc0 : Int32) (ps0 pst0 psk0 jm0 cp0 : Nat → Int32), (∀ post : SX → Prop, post (xT, tr, ep, ind0, vc, pc0, xD, xE, cur, tu, ca, c, a, nm, nv, ps0, pst0, psk0, jm0, cp0, stk, em, ce, rp, ct, cm) → wpX_arrangeParts post (xT, tr, ep, ind, vc, pc, xD, xE, cur, tu, ca, c, a, nm, nv, ps, pst, psk, jm, cp, stk, em, ce, rp, ct, cm) (nI p)) ∧ sk_I T (p + 1) c a ind0 vc pc0 nm nv ps0 pst0 psk0 jm0 cp0 := by
  have e : c (nI p).toNatClampNeg = 21 := by rw [nI_clamp (n := p) (by omega)]; exact h
  have hs : sk_hs c (sk_R c p) = 19 := O.2.2.2.2.2.2.1 h
  obtain ⟨⟨s, k⟩, t, hR⟩ : ∃ x t, sk_R c p = x :: t := by
    cases hL : sk_R c p with
    | nil => exact absurd hL (sk_hs0 hs (by decide))
    | cons x t => exact ⟨x, t, rfl⟩
  have K := sg_ch hT I hi O (Or.inr ⟨h, hs⟩) hR
  have HH := (sk_HIa I.2.2.2.2.1).1
  have e3 := I.2.2.1
  have e4 := I.2.2.2.1
  have e6 := I.2.2.2.2.2.1
  rw [hR] at HH e3 e4 e6
  rw [List.length_cons] at e3 e4
  have kp : k < p := HH.2.2.2.1
  subst e3
  refine ⟨_, _, _, _, _, _, _, fun post hpost => ⟨vp_in_nI (n := p) (by omega) (by decide), nm_r e (br_f (by decide) (br_f (by decide) (br_f (by decide) (br_f (by decide) (br_f (by decide) (br_f (by decide) (br_f (by decide) (br_t rfl (sx_76 (by omega) (by omega) (by omega) e6.1.2.2 hpost)))))))))⟩, K⟩
theorem sg_a18 (hT : p < T) (h80 : T ≤ 80) (I : sk_I T p c a ind vc pc nm nv ps pst psk jm cp) (hi : sk_in c p = 1) (O : sk_Ok c a p) (h : c p = 18) : ∃ (ind0 pc0 : Int32) (ps0 pst0 psk0 jm0 cp0 : Nat → Int32), (∀ post : SX → Prop, post (xT, tr, ep, ind0, vc, pc0, xD, xE, cur, tu, ca, c, a, nm, nv, ps0, pst0, psk0, jm0, cp0, stk, em, ce, rp, ct, cm) → wpX_arrangeParts post (xT, tr, ep, ind, vc, pc, xD, xE, cur, tu, ca, c, a, nm, nv, ps, pst, psk, jm, cp, stk, em, ce, rp, ct, cm) (nI p)) ∧ sk_I T (p + 1) c a ind0 vc pc0 nm nv ps0 pst0 psk0 jm0 cp0 := by
  have e : c (nI p).toNatClampNeg = 18 := by rw [nI_clamp (n := p) (by omega)]; exact h
  have hne : sk_R c p ≠ [] := (O.2.2.2.2.1 h).elim (fun y => sk_hs0 y (by decide)) (fun y => sk_hs0 y (by decide))
  obtain ⟨⟨s, k⟩, t, hR⟩ : ∃ x t, sk_R c p = x :: t := by
    cases hL : sk_R c p with
    | nil => exact absurd hL hne
    | cons x t => exact ⟨x, t, rfl⟩
  have K := sg_cl hT I hi O (by rw [h]; decide) hR
  have HH := (sk_HIa I.2.2.2.2.1).1
  have e3 := I.2.2.1
  have e4 := I.2.2.2.1
  have e6 := I.2.2.2.2.2.1
  rw [hR] at HH e3 e4 e6
  rw [List.length_cons] at e3 e4
  have kp : k < p := HH.2.2.2.1
  subst e3
  refine ⟨_, _, _, _, _, _, _, fun post hpost => ⟨vp_in_nI (n := p) (by omega) (by decide), nm_r e (br_f (by decide) (br_f (by decide) (br_f (by decide) (br_f (by decide) (br_t rfl (sx_84 (by omega) (by omega) (by omega) e6.1.2.2 e6.1.2.1 hpost))))))⟩, K⟩
theorem sg_a20 (hT : p < T) (h80 : T ≤ 80) (I : sk_I T p c a ind vc pc nm nv ps pst psk jm cp) (hi : sk_in c p = 1) (O : sk_Ok c a p) (h : c p = 20) : ∃ (ind0 pc0 : Int32) (ps0 pst0 psk0 jm0 cp0 : Nat → Int32), (∀ post : SX → Prop, post (xT, tr, ep, ind0, vc, pc0, xD, xE, cur, tu, ca, c, a, nm, nv, ps0, pst0, psk0, jm0, cp0, stk, em, ce, rp, ct, cm) → wpX_arrangeParts post (xT, tr, ep, ind, vc, pc, xD, xE, cur, tu, ca, c, a, nm, nv, ps, pst, psk, jm, cp, stk, em, ce, rp, ct, cm) (nI p)) ∧ sk_I T (p + 1) c a ind0 vc pc0 nm nv ps0 pst0 psk0 jm0 cp0 := by
  have e : c (nI p).toNatClampNeg = 20 := by rw [nI_clamp (n := p) (by omega)]; exact h
  have hne : sk_R c p ≠ [] := sk_hs0 (O.2.2.2.2.2.1 h) (by decide)
  obtain ⟨⟨s, k⟩, t, hR⟩ : ∃ x t, sk_R c p = x :: t := by
    cases hL : sk_R c p with
    | nil => exact absurd hL hne
    | cons x t => exact ⟨x, t, rfl⟩
  have K := sg_cl hT I hi O (by rw [h]; decide) hR
  have HH := (sk_HIa I.2.2.2.2.1).1
  have e3 := I.2.2.1
  have e4 := I.2.2.2.1
  have e6 := I.2.2.2.2.2.1
  rw [hR] at HH e3 e4 e6
  rw [List.length_cons] at e3 e4
  have kp : k < p := HH.2.2.2.1
  subst e3
  refine ⟨_, _, _, _, _, _, _, fun post hpost => ⟨vp_in_nI (n := p) (by omega) (by decide), nm_r e (br_f (by decide) (br_f (by decide) (br_f (by decide) (br_f (by decide) (br_f (by decide) (br_f (by decide) (br_t rfl (sx_84 (by omega) (by omega) (by omega) e6.1.2.2 e6.1.2.1 hpost))))))))⟩, K⟩
theorem sg_a22 (hT : p < T) (h80 : T ≤ 80) (I : sk_I T p c a ind vc pc nm nv ps pst psk jm cp) (hi : sk_in c p = 1) (O : sk_Ok c a p) (h : c p = 22) : ∃ (ind0 pc0 : Int32) (ps0 pst0 psk0 jm0 cp0 : Nat → Int32), (∀ post : SX → Prop, post (xT, tr, ep, ind0, vc, pc0, xD, xE, cur, tu, ca, c, a, nm, nv, ps0, pst0, psk0, jm0, cp0, stk, em, ce, rp, ct, cm) → wpX_arrangeParts post (xT, tr, ep, ind, vc, pc, xD, xE, cur, tu, ca, c, a, nm, nv, ps, pst, psk, jm, cp, stk, em, ce, rp, ct, cm) (nI p)) ∧ sk_I T (p + 1) c a ind0 vc pc0 nm nv ps0 pst0 psk0 jm0 cp0 := by
  have e : c (nI p).toNatClampNeg = 22 := by rw [nI_clamp (n := p) (by omega)]; exact h
  have hne : sk_R c p ≠ [] := sk_hs0 (O.2.2.2.2.2.2.2.1 h) (by decide)
  obtain ⟨⟨s, k⟩, t, hR⟩ : ∃ x t, sk_R c p = x :: t := by
    cases hL : sk_R c p with
    | nil => exact absurd hL hne
    | cons x t => exact ⟨x, t, rfl⟩
  have K := sg_cl hT I hi O (by rw [h]; decide) hR
  have HH := (sk_HIa I.2.2.2.2.1).1
  have e3 := I.2.2.1
  have e4 := I.2.2.2.1
  have e6 := I.2.2.2.2.2.1
  rw [hR] at HH e3 e4 e6
  rw [List.length_cons] at e3 e4
  have kp : k < p := HH.2.2.2.1
  subst e3
  refine ⟨_, _, _, _, _, _, _, fun post hpost => ⟨vp_in_nI (n := p) (by omega) (by decide), nm_r e (br_f (by decide) (br_f (by decide) (br_f (by decide) (br_f (by decide) (br_f (by decide) (br_f (by decide) (br_f (by decide) (br_f (by decide) (br_t rfl (sx_84 (by omega) (by omega) (by omega) e6.1.2.2 e6.1.2.1 hpost))))))))))⟩, K⟩
theorem sg_a24 (hT : p < T) (h80 : T ≤ 80) (I : sk_I T p c a ind vc pc nm nv ps pst psk jm cp) (hi : sk_in c p = 1) (O : sk_Ok c a p) (h : c p = 24) : ∃ (ind0 pc0 : Int32) (ps0 pst0 psk0 jm0 cp0 : Nat → Int32), (∀ post : SX → Prop, post (xT, tr, ep, ind0, vc, pc0, xD, xE, cur, tu, ca, c, a, nm, nv, ps0, pst0, psk0, jm0, cp0, stk, em, ce, rp, ct, cm) → wpX_arrangeParts post (xT, tr, ep, ind, vc, pc, xD, xE, cur, tu, ca, c, a, nm, nv, ps, pst, psk, jm, cp, stk, em, ce, rp, ct, cm) (nI p)) ∧ sk_I T (p + 1) c a ind0 vc pc0 nm nv ps0 pst0 psk0 jm0 cp0 := by
  have e : c (nI p).toNatClampNeg = 24 := by rw [nI_clamp (n := p) (by omega)]; exact h
  have hne : sk_R c p ≠ [] := sk_hs0 (O.2.2.2.2.2.2.2.2.1 h) (by decide)
  obtain ⟨⟨s, k⟩, t, hR⟩ : ∃ x t, sk_R c p = x :: t := by
    cases hL : sk_R c p with
    | nil => exact absurd hL hne
    | cons x t => exact ⟨x, t, rfl⟩
  have K := sg_cl hT I hi O (by rw [h]; decide) hR
  have HH := (sk_HIa I.2.2.2.2.1).1
  have e3 := I.2.2.1
  have e4 := I.2.2.2.1
  have e6 := I.2.2.2.2.2.1
  rw [hR] at HH e3 e4 e6
  rw [List.length_cons] at e3 e4
  have kp : k < p := HH.2.2.2.1
  subst e3
  refine ⟨_, _, _, _, _, _, _, fun post hpost => ⟨vp_in_nI (n := p) (by omega) (by decide), nm_r e (br_f (by decide) (br_f (by decide) (br_f (by decide) (br_f (by decide) (br_f (by decide) (br_f (by decide) (br_f (by decide) (br_f (by decide) (br_f (by decide) (br_f (by decide) (br_t rfl (sx_84 (by omega) (by omega) (by omega) e6.1.2.2 e6.1.2.1 hpost))))))))))))⟩, K⟩
theorem sg_a25 (hT : p < T) (h80 : T ≤ 80) (I : sk_I T p c a ind vc pc nm nv ps pst psk jm cp) (hi : sk_in c p = 1) (O : sk_Ok c a p) (h : c p = 25) : ∃ (ind0 pc0 : Int32) (ps0 pst0 psk0 jm0 cp0 : Nat → Int32), (∀ post : SX → Prop, post (xT, tr, ep, ind0, vc, pc0, xD, xE, cur, tu, ca, c, a, nm, nv, ps0, pst0, psk0, jm0, cp0, stk, em, ce, rp, ct, cm) → wpX_arrangeParts post (xT, tr, ep, ind, vc, pc, xD, xE, cur, tu, ca, c, a, nm, nv, ps, pst, psk, jm, cp, stk, em, ce, rp, ct, cm) (nI p)) ∧ sk_I T (p + 1) c a ind0 vc pc0 nm nv ps0 pst0 psk0 jm0 cp0 := by
  have e : c (nI p).toNatClampNeg = 25 := by rw [nI_clamp (n := p) (by omega)]; exact h
  have K := sg_lo I hi O (Or.inr (Or.inl h)) (cp' := upd cp p (sk_ti c (sk_R c p))) (fun q hq => pk_un hq) (fun _ => pk_us)
  rw [sk_inS O.1.2.2 (by rw [h]; decide), ← I.1] at K
  have e3 := I.2.2.1
  subst e3
  refine ⟨_, _, _, _, _, _, _, fun post hpost => ⟨vp_in_nI (n := p) (by omega) (by decide), nm_r e (br_f (by decide) (br_f (by decide) (br_f (by decide) (br_f (by decide) (br_f (by decide) (br_f (by decide) (br_f (by decide) (br_f (by decide) (br_f (by decide) (br_f (by decide) (br_f (by decide) (br_t rfl (sx_inner I.2.2.2.1 I.2.2.2.2.2.1 ⟨vp_in_nI (n := p) (by omega) (by decide), nm_r (by rw [nI_clamp (n := p) (by omega)]) hpost⟩)))))))))))))⟩, K⟩
theorem sg_a27 (hT : p < T) (h80 : T ≤ 80) (I : sk_I T p c a ind vc pc nm nv ps pst psk jm cp) (hi : sk_in c p = 1) (O : sk_Ok c a p) (h : c p = 27) : ∃ (ind0 pc0 : Int32) (ps0 pst0 psk0 jm0 cp0 : Nat → Int32), (∀ post : SX → Prop, post (xT, tr, ep, ind0, vc, pc0, xD, xE, cur, tu, ca, c, a, nm, nv, ps0, pst0, psk0, jm0, cp0, stk, em, ce, rp, ct, cm) → wpX_arrangeParts post (xT, tr, ep, ind, vc, pc, xD, xE, cur, tu, ca, c, a, nm, nv, ps, pst, psk, jm, cp, stk, em, ce, rp, ct, cm) (nI p)) ∧ sk_I T (p + 1) c a ind0 vc pc0 nm nv ps0 pst0 psk0 jm0 cp0 := by
  have e : c (nI p).toNatClampNeg = 27 := by rw [nI_clamp (n := p) (by omega)]; exact h
  have K := sg_lo I hi O (Or.inr (Or.inr h)) (fun _ _ => rfl) (fun y => by rw [h] at y; exact absurd y (by decide))
  rw [sk_in27 h] at K
  refine ⟨_, _, _, _, _, _, _, fun post hpost => ⟨vp_in_nI (n := p) (by omega) (by decide), nm_r e (br_f (by decide) (br_f (by decide) (br_f (by decide) (br_f (by decide) (br_f (by decide) (br_f (by decide) (br_f (by decide) (br_f (by decide) (br_f (by decide) (br_f (by decide) (br_f (by decide) (br_f (by decide) (br_f (by decide) (br_t rfl (hpost)))))))))))))))⟩, K⟩
theorem sg_all (hT : p < T) (h80 : T ≤ 80) (I : sk_I T p c a ind vc pc nm nv ps pst psk jm cp) (hi : sk_in c p = 1) (O : sk_Ok c a p) : ∃ (ind0 pc0 : Int32) (ps0 pst0 psk0 jm0 cp0 : Nat → Int32), (∀ post : SX → Prop, post (xT, tr, ep, ind0, vc, pc0, xD, xE, cur, tu, ca, c, a, nm, nv, ps0, pst0, psk0, jm0, cp0, stk, em, ce, rp, ct, cm) → wpX_arrangeParts post (xT, tr, ep, ind, vc, pc, xD, xE, cur, tu, ca, c, a, nm, nv, ps, pst, psk, jm, cp, stk, em, ce, rp, ct, cm) (nI p)) ∧ sk_I T (p + 1) c a ind0 vc pc0 nm nv ps0 pst0 psk0 jm0 cp0 := by
  rcases sk_cases (c p) with h | h | h | h | h | h | h | h | h | h | h | h | h | h | h
  · refine sg_a0 hT h80 I hi O ?_
    rw [Int32.lt_iff_toInt_lt] at h ⊢
    have i1 : (15 : Int32).toInt = 15 := by decide
    have i2 : (16 : Int32).toInt = 16 := by decide
    omega
  · exact absurd h O.1.2.1
  · exact sg_a0 hT h80 I hi O (by rw [h]; decide)
  · exact sg_a16 hT h80 I hi O h
  · exact sg_a17 hT h80 I hi O h
  · exact sg_a18 hT h80 I hi O h
  · exact sg_a19 hT h80 I hi O h
  · exact sg_a20 hT h80 I hi O h
  · exact sg_a21 hT h80 I hi O h
  · exact sg_a22 hT h80 I hi O h
  · exact sg_a23 hT h80 I hi O h
  · exact sg_a24 hT h80 I hi O h
  · exact sg_a25 hT h80 I hi O h
  · exact absurd h O.1.2.2
  · exact sg_a27 hT h80 I hi O h
theorem so_N {x y : Int32} {n : Nat} (hn : n < 12) (ha : a p = nI n) (hd : ∀ q, q < p → ¬ sk_df c a q (nI n)) (N : sk_N c a p nm nv) (h : (c p = 26 ∧ x = 1 ∧ y = nI (p + 1)) ∨ (c p = 28 ∧ x = 2 ∧ y = nI (sk_vs c p))) : sk_N c a (p + 1) (upd nm n x) (upd nv n y) := by
  intro m hm
  by_cases e : m = n
  · subst e
    rw [pk_us, pk_us]
    refine Or.inr ⟨p, by omega, ⟨h.elim (fun z => Or.inl z.1) (fun z => Or.inr z.1), ha⟩, hd, h⟩
  · rw [pk_un e, pk_un e]
    rcases N m hm with ⟨z1, z2⟩ | ⟨q, hq, z⟩
    · refine Or.inl ⟨z1, sk_lts z2 (fun w => ?_)⟩
      have := w.2
      rw [ha, nI_eq (by omega) (by omega)] at this
      exact e this.symm
    · exact Or.inr ⟨q, by omega, z⟩
theorem so_all (hT : p < T) (h80 : T ≤ 80) (I : sk_I T p c a ind vc pc nm nv ps pst psk jm cp) (hi : sk_in c p = 0) : ∃ e : Int32, (∀ post : Int32 → Prop, post e → wpY_outside post (yT, ytr, ep, yD, yE, lv, yt, c, a, stk, em, ce, po, yc, ye) (nI p)) ∧ ((e ≠ 0 ∧ ∀ post : Int32 → SX → Prop, post e (xT, tr, ep, ind, vc, pc, xD, xE, cur, tu, ca, c, a, nm, nv, ps, pst, psk, jm, cp, stk, em, ce, rp, ct, cm) → wpX_translateOutside post (xT, tr, ep, ind, vc, pc, xD, xE, cur, tu, ca, c, a, nm, nv, ps, pst, psk, jm, cp, stk, em, ce, rp, ct, cm) (nI p)) ∨ (e = 0 ∧ ∃ (ind0 vc0 : Int32) (nm0 nv0 : Nat → Int32), (∀ post : Int32 → SX → Prop, post 0 (xT, tr, ep, ind0, vc0, pc, xD, xE, cur, tu, ca, c, a, nm0, nv0, ps, pst, psk, jm, cp, stk, em, ce, rp, ct, cm) → wpX_translateOutside post (xT, tr, ep, ind, vc, pc, xD, xE, cur, tu, ca, c, a, nm, nv, ps, pst, psk, jm, cp, stk, em, ce, rp, ct, cm) (nI p)) ∧ sk_I T (p + 1) c a ind0 vc0 pc nm0 nv0 ps pst psk jm cp)) := by
  have e : c (nI p).toNatClampNeg = c p := by rw [nI_clamp (n := p) (by omega)]
  have e2 : a (nI p).toNatClampNeg = a p := by rw [nI_clamp (n := p) (by omega)]
  have V : ∀ {N : Nat}, N = 80 → vp_in (nI p) N := fun e => by rw [e]; exact vp_in_nI (n := p) (by omega) (by decide)
  by_cases h1 : c p = 26 ∨ c p = 28
  · have gX : ∀ post : Int32 → SX → Prop, wX_translateOutside_28 post (nI p) (c p) (a p) xT tr ep ind vc pc xD xE cur tu ca c a nm nv ps pst psk jm cp stk em ce rp ct cm → wpX_translateOutside post (xT, tr, ep, ind, vc, pc, xD, xE, cur, tu, ca, c, a, nm, nv, ps, pst, psk, jm, cp, stk, em, ce, rp, ct, cm) (nI p) := by
      intro post z
      refine ⟨V rfl, nm_r e ⟨V rfl, nm_r e2 ?_⟩⟩
      by_cases h26 : c p = 26
      · exact br_t h26 z
      · exact br_f h26 (br_t (h1.resolve_left h26) z)
    have gY : ∀ post : Int32 → Prop, wY_outside_24 post (nI p) yT ytr ep yD yE lv yt c a stk em ce po yc ye → wpY_outside post (yT, ytr, ep, yD, yE, lv, yt, c, a, stk, em, ce, po, yc, ye) (nI p) := by
      intro post z
      refine ⟨V rfl, ?_⟩
      rw [e]
      by_cases h26 : c p = 26
      · exact br_t h26 z
      · exact br_f h26 ⟨V rfl, br_t (h1.resolve_left h26) z⟩
    by_cases hn : sk_nm (a p)
    · obtain ⟨n, hn12, ha⟩ := sk_nmI hn
      have Vn : ∀ {N : Nat}, N = 12 → vp_in (nI n) N := fun e => by rw [e]; exact vp_in_nI (n := n) (by omega) (by decide)
      have I' := I
      obtain ⟨i1, i2, i3, i4, i5, i6, i7, i8, i9, i10⟩ := I
      rcases i7 n hn12 with ⟨z1, z2⟩ | ⟨q, hq, z2, z3, z4⟩
      · have hR := (sk_HIa i5).2 hi
        have Oo : sk_Oo c a p := ⟨h1, hn, by rw [ha]; exact z2⟩
        have TT : ∀ q, q < p + 1 → sk_Tk c a q := sk_lts i5 ⟨fun _ => Oo, fun y => absurd (hi.symm.trans y) (by decide)⟩
        refine ⟨0, fun post hpost => gY post ⟨V rfl, by rw [e2]; exact sy_nmT hn (br_f (by decide) ⟨V rfl, sy_dfN (by omega) (by rw [ha]; exact z2) (br_t (by decide) hpost)⟩)⟩, Or.inr ⟨rfl, ?_⟩⟩
        by_cases h26 : c p = 26
        · refine ⟨1, vc, upd nm n 1, upd nv n (nI (p + 1)), fun post hpost => gX post ?_, ?_⟩
          · rw [ha]
            refine sx_nmT (by rw [← ha]; exact hn) (br_f (by decide) ⟨Vn rfl, ?_⟩)
            rw [nI_clamp (n := n) (by omega)]
            exact br_t z1 (br_t h26 ⟨Vn rfl, nm_e ⟨Vn rfl, nm_r (by rw [nI_1]) hpost⟩⟩)
          · have n28 : c p ≠ 28 := by rw [h26]; decide
            rw [hR] at i3 i9
            refine ⟨(sk_in26 h26).symm, by rw [sk_vsin n28]; exact i2, by rw [sk_R26 h26]; exact i3, by rw [sk_R26 h26]; exact Nat.zero_le _, TT, by rw [sk_R26 h26]; trivial, so_N hn12 ha z2 i7 (Or.inl ⟨h26, rfl, rfl⟩), by rw [sk_vsin n28, sk_cv1 nm n (by rw [z1]; decide) 1 (by decide)]; exact i8, ?_, ?_⟩
            · rw [sk_R26 h26]
              refine sk_lts i9 (fun _ => ⟨fun y => ?_, fun y => ?_⟩) <;> rw [h26] at y <;> exact absurd y (by decide)
            · refine sk_lts i10 ⟨fun y => ?_, fun y => ?_, fun y => ?_⟩ <;> rw [h26] at y <;> exact absurd y (by decide)
        · have h28 := h1.resolve_left h26
          have eR : sk_R c (p + 1) = sk_R c p := sk_Rpl (by rw [h28]; decide) (by rw [h28]; decide) (by rw [h28]; decide) h26
          have eV : sk_vs c (p + 1) = sk_vs c p + 1 := by rw [sk_vs, if_pos h28]
          refine ⟨ind, nI (sk_vs c p + 1), upd nm n 2, upd nv n vc, fun post hpost => gX post ?_, ?_⟩
          · rw [ha]
            refine sx_nmT (by rw [← ha]; exact hn) (br_f (by decide) ⟨Vn rfl, ?_⟩)
            rw [nI_clamp (n := n) (by omega)]
            exact br_t z1 (br_f h26 ⟨Vn rfl, nm_e ⟨Vn rfl, nm_e (nm_r (by rw [i2, nI_1]) hpost)⟩⟩)
          · refine ⟨by rw [sk_inS h26 (by rw [h28]; decide)]; exact i1, by rw [eV], by rw [eR]; exact i3, by rw [eR]; exact i4, TT, by rw [eR]; exact i6, so_N hn12 ha z2 i7 (Or.inr ⟨h28, rfl, i2⟩), by rw [eV, sk_cv2 nm n (by rw [z1]; decide) 12 hn12, i8], ?_, ?_⟩
            · rw [eR]
              refine sk_lts i9 (fun _ => ⟨fun y => ?_, fun y => ?_⟩) <;> rw [h28] at y <;> exact absurd y (by decide)
            · refine sk_lts i10 ⟨fun y => ?_, fun y => ?_, fun y => ?_⟩ <;> rw [h28] at y <;> exact absurd y (by decide)
      · refine ⟨3, fun post hpost => gY post ⟨V rfl, by rw [e2]; exact sy_nmT hn (br_f (by decide) ⟨V rfl, by rw [ha]; exact sy_dfS (by omega) hq z2 z3 (br_f (nI_pos (by omega)) hpost)⟩)⟩, Or.inl ⟨by decide, fun post hpost => gX post ?_⟩⟩
        rw [ha]
        refine sx_nmT (by rw [← ha]; exact hn) (br_f (by decide) ⟨Vn rfl, ?_⟩)
        rw [nI_clamp (n := n) (by omega)]
        refine br_f ?_ hpost
        rcases z4 with z | z <;> rw [z.2.1] <;> decide
    · exact ⟨2, fun post hpost => gY post ⟨V rfl, by rw [e2]; exact sy_nmF hn (br_t rfl hpost)⟩, Or.inl ⟨by decide, fun post hpost => gX post (sx_nmF hn (br_t rfl hpost))⟩⟩
  · have n26 : ¬ c p = 26 := fun y => h1 (Or.inl y)
    have n28 : ¬ c p = 28 := fun y => h1 (Or.inr y)
    refine ⟨1, fun post hpost => ⟨V rfl, ?_⟩, Or.inl ⟨by decide, fun post hpost => ⟨V rfl, nm_r e ⟨V rfl, nm_r e2 (br_f n26 (br_f n28 hpost))⟩⟩⟩⟩
    rw [e]
    exact br_f n26 ⟨V rfl, br_f n28 hpost⟩
end
end
section
def sk_G (T : Nat) (c a nm nv : Nat → Int32) (vc : Int32) (jm cp : Nat → Int32) : Prop :=
  (∀ q, q < T → sk_Tk c a q) ∧ sk_in c T = 0 ∧ vc = nI (sk_vs c T) ∧ sk_vs c T ≤ 12 ∧ sk_N c a T nm nv ∧ (∀ q, q < T → c q = 15 → ∃ n, n < 12 ∧ a q = nI n ∧ nm n ≠ 0) ∧ (∀ q, q < T → sk_J c jm T q) ∧ (∀ q, q < T → sk_C c cp q)
def sk_Rel (u : SX) (v : SY) : Prop :=
  ∃ (T D E : Nat) (tr ep ind vc pc cur tu ca lv yt : Int32) (c a nm nv ps pst psk jm cp stk em ce rp ct cm po yc ye : Nat → Int32), T ≤ 80 ∧ D ≤ 16 ∧ E ≤ 16 ∧ u = (nI T, tr, ep, ind, vc, pc, nI D, nI E, cur, tu, ca, c, a, nm, nv, ps, pst, psk, jm, cp, stk, em, ce, rp, ct, cm) ∧ v = (nI T, tr, ep, nI D, nI E, lv, yt, c, a, stk, em, ce, po, yc, ye) ∧ (tr = 0 ∨ (tr = 1 ∧ sk_G T c a nm nv vc jm cp))
section
variable {xT tr ep ind vc pc xD xE cur tu ca yT yD yE lv yt : Int32} {c a nm nv ps pst psk jm cp stk em ce rp ct cm po yc ye : Nat → Int32}
variable {T D E : Nat} {ytr : Int32}
theorem sf_l (h80 : T ≤ 80) (hq : ∀ q, q < T → sk_Tk c a q) (N : sk_N c a T nm nv) : ∀ (n i : Nat), i ≤ T → T < n + i → (∀ q, q < i → c q = 15 → ∃ m, m < 12 ∧ a q = nI m ∧ nm m ≠ 0) →
    (∃ j, j < T ∧ (∀ post : Int32 → SX → Prop, post 7 (nI T, tr, nI j, ind, vc, pc, xD, xE, cur, tu, ca, c, a, nm, nv, ps, pst, psk, jm, cp, stk, em, ce, rp, ct, cm) → wX_finishTranslation_20 post (nI T) tr ep ind vc pc xD xE cur tu ca c a nm nv ps pst psk jm cp stk em ce rp ct cm n (nI i)) ∧ (∀ post : Int32 → SY → Prop, post 7 (nI T, 0, nI j, yD, yE, lv, yt, c, a, stk, em, ce, po, yc, ye) → wY_translate_90 post (nI T) ytr ep yD yE lv yt c a stk em ce po yc ye n (nI i)))
    ∨ ((∀ q, q < T → c q = 15 → ∃ m, m < 12 ∧ a q = nI m ∧ nm m ≠ 0) ∧ (∀ post : Int32 → SX → Prop, post 0 (nI T, tr, ep, ind, vc, pc, xD, xE, cur, tu, ca, c, a, nm, nv, ps, pst, psk, jm, cp, stk, em, ce, rp, ct, cm) → wX_finishTranslation_20 post (nI T) tr ep ind vc pc xD xE cur tu ca c a nm nv ps pst psk jm cp stk em ce rp ct cm n (nI i)) ∧ (∀ post : Int32 → SY → Prop, post 0 (nI T, 1, ep, 0, 0, lv, yt, c, a, stk, em, sk_z ce 12, po, yc, ye) → wY_translate_90 post (nI T) ytr ep yD yE lv yt c a stk em ce po yc ye n (nI i)))
  | 0, i, h1, h2, _ => by omega
  | n + 1, i, h1, h2, hg => by
    by_cases hi : i = T
    · subst hi
      refine Or.inr ⟨hg, fun post hp => br_t (nI_le (Nat.le_refl _) (by omega)) hp, fun post hp => br_t (nI_le (Nat.le_refl _) (by omega)) ⟨13, ?_⟩⟩
      have := sy_rl hp 13 0 (by omega) (by omega)
      rw [nI_0] at this
      exact this
    · have V : ∀ {N : Nat}, N = 80 → vp_in (nI i) N := fun e => by rw [e]; exact vp_in_nI (n := i) (by omega) (by decide)
      have nle : ¬ nI T ≤ nI i := nI_ge (by omega) (by omega)
      by_cases h15 : c i = 15
      · have hin : sk_in c i = 1 := by
          rcases sk_in01 c i with y | y
          · have := ((hq i (by omega)).1 y).1
            rw [h15] at this
            exact absurd this (by decide)
          · exact y
        obtain ⟨m, hm, ha⟩ := sk_nmI (((hq i (by omega)).2 hin).2.1 h15)
        have Vm : ∀ {N : Nat}, N = 12 → vp_in (nI m) N := fun e => by rw [e]; exact vp_in_nI (n := m) (by omega) (by decide)
        rcases N m hm with ⟨z1, z2⟩ | ⟨q, hq', z2, z3, z4⟩
        · refine Or.inl ⟨i, by omega, fun post hp => br_f nle ⟨V rfl, ?_⟩, fun post hp => br_f nle ⟨V rfl, ?_⟩⟩
          · rw [nI_clamp (n := i) (by omega), ha, nI_clamp (n := m) (by omega)]
            exact br_t h15 ⟨V rfl, Vm rfl, br_t z1 hp⟩
          · rw [nI_clamp (n := i) (by omega), ha]
            exact br_t h15 ⟨V rfl, sy_dfN h80 z2 (br_f (by decide) hp)⟩
        · have nz : nm m ≠ 0 := by rcases z4 with z | z <;> rw [z.2.1] <;> decide
          have ih := sf_l h80 hq N n (i + 1) (by omega) (by omega) (sk_lts hg (fun _ => ⟨m, hm, ha, nz⟩))
          have gX : ∀ post : Int32 → SX → Prop, wX_finishTranslation_20 post (nI T) tr ep ind vc pc xD xE cur tu ca c a nm nv ps pst psk jm cp stk em ce rp ct cm n (nI (i + 1)) → wX_finishTranslation_20 post (nI T) tr ep ind vc pc xD xE cur tu ca c a nm nv ps pst psk jm cp stk em ce rp ct cm (n + 1) (nI i) := by
            intro post z
            refine br_f nle ⟨V rfl, ?_⟩
            rw [nI_clamp (n := i) (by omega), ha, nI_clamp (n := m) (by omega)]
            exact br_t h15 ⟨V rfl, Vm rfl, br_f nz (nm_r (nI_1 i) z)⟩
          have gY : ∀ post : Int32 → SY → Prop, wY_translate_90 post (nI T) ytr ep yD yE lv yt c a stk em ce po yc ye n (nI (i + 1)) → wY_translate_90 post (nI T) ytr ep yD yE lv yt c a stk em ce po yc ye (n + 1) (nI i) := by
            intro post z
            refine br_f nle ⟨V rfl, ?_⟩
            rw [nI_clamp (n := i) (by omega), ha]
            exact br_t h15 ⟨V rfl, sy_dfS h80 hq' z2 z3 (br_t (nI_pos' (by omega)) (nm_r (nI_1 i) z))⟩
          rcases ih with ⟨j, h1', h2', h3'⟩ | ⟨h1', h2', h3'⟩
          · exact Or.inl ⟨j, h1', fun post hp => gX post (h2' post hp), fun post hp => gY post (h3' post hp)⟩
          · exact Or.inr ⟨h1', fun post hp => gX post (h2' post hp), fun post hp => gY post (h3' post hp)⟩
      · have ih := sf_l h80 hq N n (i + 1) (by omega) (by omega) (sk_lts hg (fun y => absurd y h15))
        have gX : ∀ post : Int32 → SX → Prop, wX_finishTranslation_20 post (nI T) tr ep ind vc pc xD xE cur tu ca c a nm nv ps pst psk jm cp stk em ce rp ct cm n (nI (i + 1)) → wX_finishTranslation_20 post (nI T) tr ep ind vc pc xD xE cur tu ca c a nm nv ps pst psk jm cp stk em ce rp ct cm (n + 1) (nI i) := by
          intro post z
          refine br_f nle ⟨V rfl, ?_⟩
          rw [nI_clamp (n := i) (by omega)]
          exact br_f h15 (nm_r (nI_1 i) z)
        have gY : ∀ post : Int32 → SY → Prop, wY_translate_90 post (nI T) ytr ep yD yE lv yt c a stk em ce po yc ye n (nI (i + 1)) → wY_translate_90 post (nI T) ytr ep yD yE lv yt c a stk em ce po yc ye (n + 1) (nI i) := by
          intro post z
          refine br_f nle ⟨V rfl, ?_⟩
          rw [nI_clamp (n := i) (by omega)]
          exact br_f h15 (nm_r (nI_1 i) z)
        rcases ih with ⟨j, h1', h2', h3'⟩ | ⟨h1', h2', h3'⟩
        · exact Or.inl ⟨j, h1', fun post hp => gX post (h2' post hp), fun post hp => gY post (h3' post hp)⟩
        · exact Or.inr ⟨h1', fun post hp => gX post (h2' post hp), fun post hp => gY post (h3' post hp)⟩
theorem sf_end (h80 : T ≤ 80) (hD : D ≤ 16) (hE : E ≤ 16) (I : sk_I T T c a ind vc pc nm nv ps pst psk jm cp) : ∃ (r : Int32) (u' : SX) (v' : SY), sk_Rel u' v' ∧ (∀ post : Int32 → SX → Prop, post r u' → wX_translate_56 post 0 (nI T) 0 ep ind vc pc (nI D) (nI E) cur tu ca c a nm nv ps pst psk jm cp stk em ce rp ct cm)
    ∧ (∀ (n : Nat) (post : Int32 → SY → Prop), post r v' → wY_translate_4 post (nI T) ytr ep (nI D) (nI E) lv yt c a stk em ce po yc ye (n + 1) ind (nI T)) := by
  obtain ⟨i1, i2, i3, i4, i5, i6, i7, i8, i9, i10⟩ := I
  have le : nI T ≤ nI T := nI_le (Nat.le_refl _) (by omega)
  rcases sk_in01 c T with z | z
  · have z0 : ind = 0 := i1.trans z
    rcases sf_l (tr := 0) (ep := ep) (ind := ind) (vc := vc) (pc := pc) (xD := nI D) (xE := nI E) (cur := cur) (tu := tu) (ca := ca) (yD := nI D) (yE := nI E) (lv := lv) (yt := yt) (c := c) (a := a) (nm := nm) (nv := nv) (ps := ps) (pst := pst) (psk := psk) (jm := jm) (cp := cp) (stk := stk) (em := em) (ce := ce) (rp := rp) (ct := ct) (cm := cm) (po := po) (yc := yc) (ye := ye) (ytr := ytr) h80 i5 i7 (T + 1) 0 (by omega) (by omega) (fun q hq => absurd hq (by omega)) with ⟨j, h1, h2, h3⟩ | ⟨h1, h2, h3⟩
    · refine ⟨7, _, _, ⟨T, D, E, 0, nI j, ind, vc, pc, cur, tu, ca, lv, yt, c, a, nm, nv, ps, pst, psk, jm, cp, stk, em, ce, rp, ct, cm, po, yc, ye, h80, hD, hE, rfl, rfl, Or.inl rfl⟩, ?_, ?_⟩
      · intro post hp
        exact br_t rfl (br_t z0 ⟨T + 1, h2 _ (br_f (by decide) hp)⟩)
      · intro n post hp
        exact br_t le (br_t z0 ⟨T + 1, h3 _ hp⟩)
    · have hR := (sk_HIa i5).2 z
      rw [hR] at i9
      refine ⟨0, _, _, ⟨T, 0, 0, 1, ep, ind, vc, pc, cur, tu, ca, lv, yt, c, a, nm, nv, ps, pst, psk, jm, cp, stk, em, sk_z ce 12, rp, ct, cm, po, yc, ye, h80, by omega, by omega, rfl, rfl, Or.inr ⟨rfl, i5, z, i2, by rw [i8]; exact sk_cvle nm 12, i7, h1, fun q hq => i9 q hq (fun x hx => by cases hx), i10⟩⟩, ?_, ?_⟩
      · intro post hp
        exact br_t rfl (br_t z0 ⟨T + 1, h2 _ (br_t rfl (sx_reset hp))⟩)
      · intro n post hp
        exact br_t le (br_t z0 ⟨T + 1, h3 _ hp⟩)
  · have z0 : ¬ ind = 0 := by rw [i1, z]; decide
    refine ⟨6, _, _, ⟨T, D, E, 0, nI T, ind, vc, pc, cur, tu, ca, lv, yt, c, a, nm, nv, ps, pst, psk, jm, cp, stk, em, ce, rp, ct, cm, po, yc, ye, h80, hD, hE, rfl, rfl, Or.inl rfl⟩, ?_, ?_⟩
    · intro post hp
      exact br_t rfl (br_f z0 (br_f (by decide) hp))
    · intro n post hp
      exact br_t le (br_f z0 hp)
theorem st_err {e : Int32} {n p : Nat} (he : e ≠ 0) (h80 : T ≤ 80) (hp : p ≤ T) {post : Int32 → SX → Prop} (h : post e (nI T, tr, ep, ind, vc, pc, xD, xE, cur, tu, ca, c, a, nm, nv, ps, pst, psk, jm, cp, stk, em, ce, rp, ct, cm)) : wX_translate_8 post (n + 1) e (nI p) (nI T) tr ep ind vc pc xD xE cur tu ca c a nm nv ps pst psk jm cp stk em ce rp ct cm := by
  have z : wX_translate_56 post e (nI T) tr ep ind vc pc xD xE cur tu ca c a nm nv ps pst psk jm cp stk em ce rp ct cm := br_f he (br_f he h)
  by_cases y : p = T
  · subst y
    exact br_t (nI_le (Nat.le_refl _) (by omega)) z
  · exact br_f (nI_ge (by omega) (by omega)) (br_f he z)
theorem sk_W1 {p : Nat} (h : ∀ q, q < p → sk_Tk c a q) : (∀ q, q < p → (c q = 17 ∨ c q = 21) → sk_R c q ≠ []) ∧ (∀ q, q < p → sk_cl (c q) → sk_R c q ≠ []) := by
  have key : ∀ q, q < p → ¬ (c q = 26 ∨ c q = 28) → sk_Ok c a q := by
    intro q hq hn
    rcases sk_in01 c q with y | y
    · exact absurd ((h q hq).1 y).1 hn
    · exact (h q hq).2 y
  refine ⟨fun q hq y => ?_, fun q hq y => ?_⟩
  · have O := key q hq (by rcases y with y | y <;> rw [y] <;> decide)
    rcases y with y | y
    · exact sk_hs0 (O.2.2.2.1 y) (by decide)
    · exact sk_hs0 (O.2.2.2.2.2.2.1 y) (by decide)
  · have O := key q hq (by rcases y with y | y | y | y <;> rw [y] <;> decide)
    rcases y with y | y | y | y
    · rcases O.2.2.2.2.1 y with w | w
      · exact sk_hs0 w (by decide)
      · exact sk_hs0 w (by decide)
    · exact sk_hs0 (O.2.2.2.2.2.1 y) (by decide)
    · exact sk_hs0 (O.2.2.2.2.2.2.2.1 y) (by decide)
    · exact sk_hs0 (O.2.2.2.2.2.2.2.2.1 y) (by decide)
end
section
variable {yT tr ep yD yE lv yt : Int32} {c a stk em ce po yc ye : Nat → Int32}
variable {T D E : Nat} {ytr cur tu ca ep' : Int32} {rp ct cm : Nat → Int32}
theorem st_loop (h80 : T ≤ 80) (hD : D ≤ 16) (hE : E ≤ 16) : ∀ (n p : Nat) (ind vc pc : Int32) (nm nv ps pst psk jm cp : Nat → Int32), p ≤ T → T < n + p → sk_I T p c a ind vc pc nm nv ps pst psk jm cp →
    ∃ (r : Int32) (u' : SX) (v' : SY), sk_Rel u' v' ∧ (∀ post : Int32 → SX → Prop, post r u' → wX_translate_8 post (n + 1) 0 (nI p) (nI T) 0 ep ind vc pc (nI D) (nI E) cur tu ca c a nm nv ps pst psk jm cp stk em ce rp ct cm)
    ∧ (∀ post : Int32 → SY → Prop, post r v' → wY_translate_4 post (nI T) ytr ep (nI D) (nI E) lv yt c a stk em ce po yc ye n ind (nI p))
  | 0, p, ind, vc, pc, nm, nv, ps, pst, psk, jm, cp, h1, h2, I => by omega
  | n + 1, p, ind, vc, pc, nm, nv, ps, pst, psk, jm, cp, h1, h2, I => by
    by_cases hp : p = T
    · subst hp
      obtain ⟨r, u', v', R, hX, hY⟩ := sf_end (ep := ep) (ind := ind) (vc := vc) (pc := pc) (cur := cur) (tu := tu) (ca := ca) (lv := lv) (yt := yt) (c := c) (a := a) (nm := nm) (nv := nv) (ps := ps) (pst := pst) (psk := psk) (jm := jm) (cp := cp) (stk := stk) (em := em) (ce := ce) (rp := rp) (ct := ct) (cm := cm) (po := po) (yc := yc) (ye := ye) (ytr := ytr) h80 hD hE I
      exact ⟨r, u', v', R, fun post h => br_t (nI_le (Nat.le_refl _) (by omega)) (hX post h), fun post h => hY n post h⟩
    · have nle : ¬ nI T ≤ nI p := nI_ge (by omega) (by omega)
      have V : ∀ {N : Nat}, N = 80 → vp_in (nI p) N := fun e => by rw [e]; exact vp_in_nI (n := p) (by omega) (by decide)
      have e1 := I.1
      -- an error at p
      have bad : ∀ e : Int32, e ≠ 0 → (∀ post : Int32 → SX → Prop, post e (nI T, 0, nI p, ind, vc, pc, nI D, nI E, cur, tu, ca, c, a, nm, nv, ps, pst, psk, jm, cp, stk, em, ce, rp, ct, cm) → wX_translate_8 post (n + 1 + 1) 0 (nI p) (nI T) 0 ep ind vc pc (nI D) (nI E) cur tu ca c a nm nv ps pst psk jm cp stk em ce rp ct cm) → (∀ post : Int32 → SY → Prop, post e (nI T, 0, nI p, nI D, nI E, lv, yt, c, a, stk, em, ce, po, yc, ye) → wY_translate_4 post (nI T) ytr ep (nI D) (nI E) lv yt c a stk em ce po yc ye (n + 1) ind (nI p)) → ∃ (r : Int32) (u' : SX) (v' : SY), sk_Rel u' v' ∧ (∀ post : Int32 → SX → Prop, post r u' → wX_translate_8 post (n + 1 + 1) 0 (nI p) (nI T) 0 ep ind vc pc (nI D) (nI E) cur tu ca c a nm nv ps pst psk jm cp stk em ce rp ct cm)
          ∧ (∀ post : Int32 → SY → Prop, post r v' → wY_translate_4 post (nI T) ytr ep (nI D) (nI E) lv yt c a stk em ce po yc ye (n + 1) ind (nI p)) := by
        intro e he hX hY
        exact ⟨e, _, _, ⟨T, D, E, 0, nI p, ind, vc, pc, cur, tu, ca, lv, yt, c, a, nm, nv, ps, pst, psk, jm, cp, stk, em, ce, rp, ct, cm, po, yc, ye, h80, hD, hE, rfl, rfl, Or.inl rfl⟩, hX, hY⟩
      have y27 : ∀ post : Int32 → SY → Prop, ∀ x : Int32, (sk_in c (p + 1) = x) → (sk_in c p = 0 → c p = 26 ∨ c p = 28) → (sk_in c p = 1 → c p ≠ 26) → wY_translate_4 post (nI T) ytr ep (nI D) (nI E) lv yt c a stk em ce po yc ye n x (nI (p + 1)) → wY_translate_29 post (wY_translate_4 post (nI T) ytr ep (nI D) (nI E) lv yt c a stk em ce po yc ye n) ind (nI p) 0 (nI T) ytr ep (nI D) (nI E) lv yt c a stk em ce po yc ye := by
        intro post x hx k0 k1 h
        refine br_t rfl ⟨V rfl, ?_⟩
        have g : ∀ x1 : Int32, (c p = 27 → x = 0) → (c p ≠ 27 → x = x1) → wY_translate_54 post (wY_translate_4 post (nI T) ytr ep (nI D) (nI E) lv yt c a stk em ce po yc ye n) x1 (nI p) (nI T) ytr ep (nI D) (nI E) lv yt c a stk em ce po yc ye := by
          intro x1 q0 q1
          refine ⟨V rfl, ?_⟩
          rw [nI_clamp (n := p) (by omega)]
          by_cases h27 : c p = 27
          · rw [q0 h27] at h
            exact br_t h27 (nm_r (nI_1 p) h)
          · rw [q1 h27] at h
            exact br_f h27 (nm_r (nI_1 p) h)
        rw [nI_clamp (n := p) (by omega)]
        by_cases h26 : c p = 26
        · refine br_t h26 (g 1 (fun y => ?_) (fun _ => ?_))
          · rw [h26] at y; exact absurd y (by decide)
          · rw [← hx]; exact sk_in26 h26
        · refine br_f h26 (g ind (fun y => ?_) (fun y => ?_))
          · rw [← hx]; exact sk_in27 y
          · rw [← hx, sk_inS h26 y]; exact e1.symm
      rcases sk_in01 c p with z | z
      · have z0 : ind = 0 := e1.trans z
        obtain ⟨e, gY, gX⟩ := so_all (xT := nI T) (tr := 0) (ep := ep) (ind := ind) (vc := vc) (pc := pc) (xD := nI D) (xE := nI E) (cur := cur) (tu := tu) (ca := ca) (yT := nI T) (yD := nI D) (yE := nI E) (lv := lv) (yt := yt) (c := c) (a := a) (nm := nm) (nv := nv) (ps := ps) (pst := pst) (psk := psk) (jm := jm) (cp := cp) (stk := stk) (em := em) (ce := ce) (rp := rp) (ct := ct) (cm := cm) (po := po) (yc := yc) (ye := ye) (ytr := ytr) (by omega) h80 I z
        rcases gX with ⟨he, gX⟩ | ⟨he, ind0, vc0, nm0, nv0, gX, I'⟩
        · refine bad e he (fun post h => ?_) (fun post h => ?_)
          · exact br_f nle (br_t rfl (br_t z0 (gX _ (br_f he (nm_r (nI_1 p) (st_err he h80 (by omega) h))))))
          · exact br_f nle (br_t z0 (gY _ (br_f he h)))
        · subst he
          obtain ⟨r, u', v', R, hX, hY⟩ := st_loop h80 hD hE n (p + 1) ind0 vc0 pc nm0 nv0 ps pst psk jm cp (by omega) (by omega) I'
          have O := (I'.2.2.2.2.1 p (by omega)).1 z
          refine ⟨r, u', v', R, fun post h => ?_, fun post h => ?_⟩
          · exact br_f nle (br_t rfl (br_t z0 (gX _ (br_t rfl (nm_r (nI_1 p) (hX post h))))))
          · exact br_f nle (br_t z0 (gY _ (y27 post ind0 I'.1.symm (fun _ => O.1) (fun y => absurd (z.symm.trans y) (by decide)) (hY post h))))
      · have z0 : ¬ ind = 0 := by rw [e1, z]; decide
        have W := sk_W1 I.2.2.2.2.1
        have e3 := I.2.2.1
        subst e3
        obtain ⟨e, gX, gY, gO⟩ := se_all (xT := nI T) (tr := 0) (ep := ep) (ind := ind) (vc := vc) (xD := nI D) (xE := nI E) (cur := cur) (tu := tu) (ca := ca) (yT := nI T) (yD := nI D) (yE := nI E) (lv := lv) (yt := yt) (c := c) (a := a) (nm := nm) (nv := nv) (ps := ps) (pst := pst) (psk := psk) (jm := jm) (cp := cp) (stk := stk) (em := em) (ce := ce) (rp := rp) (ct := ct) (cm := cm) (po := po) (yc := yc) (ye := ye) (ytr := ytr) (p := p) (by omega) I.2.2.2.1 I.2.2.2.2.2.1 (sk_HIa I.2.2.2.2.1).1 W.1 W.2
        by_cases he : e = 0
        · have O := gO he
          subst he
          obtain ⟨ind0, pc0, ps0, pst0, psk0, jm0, cp0, gA, I'⟩ := sg_all (xT := nI T) (tr := 0) (ep := ep) (ind := ind) (vc := vc) (xD := nI D) (xE := nI E) (cur := cur) (tu := tu) (ca := ca) (c := c) (a := a) (nm := nm) (nv := nv) (ps := ps) (pst := pst) (psk := psk) (jm := jm) (cp := cp) (stk := stk) (em := em) (ce := ce) (rp := rp) (ct := ct) (cm := cm) (by omega) h80 I z O
          obtain ⟨r, u', v', R, hX, hY⟩ := st_loop h80 hD hE n (p + 1) ind0 vc pc0 nm nv ps0 pst0 psk0 jm0 cp0 (by omega) (by omega) I'
          refine ⟨r, u', v', R, fun post h => ?_, fun post h => ?_⟩
          · exact br_f nle (br_t rfl (br_f z0 (gX _ (br_t rfl (gA _ (br_t rfl (nm_r (nI_1 p) (hX post h))))))))
          · exact br_f nle (br_f z0 (gY _ (y27 post ind0 I'.1.symm (fun y => absurd (z.symm.trans y) (by decide)) (fun _ => O.1.2.2) (hY post h))))
        · refine bad e he (fun post h => ?_) (fun post h => ?_)
          · exact br_f nle (br_t rfl (br_f z0 (gX _ (br_f he (br_f he (nm_r (nI_1 p) (st_err he h80 (by omega) h)))))))
          · exact br_f nle (br_f z0 (gY _ (br_f he h)))
end
end
section
theorem sk_us (f : Nat → Int32) (k : Nat) : upd f k (f k) = f := by
  funext j
  by_cases h : j = k
  · subst h; exact pk_us
  · exact pk_un h
theorem sk_divL (x y : Int32) : (x.toInt64 / y.toInt64).toInt32 = x / y := by
  apply Int32.toInt_inj.mp
  rw [Int64.toInt_toInt32, Int64.toInt_div, Int32.toInt_toInt64, Int32.toInt_toInt64, Int32.toInt_div, Int.bmod_bmod_of_dvd (by decide)]
theorem sk_0i (y : Int32) (h : ¬ y = 0) : ¬ y.toInt64 = 0 := by
  intro z
  apply h
  apply Int32.toInt_inj.mp
  have := congrArg Int64.toInt z
  rw [Int32.toInt_toInt64] at this
  rw [this]
  decide
section
variable {xT tr ep ind vc pc xD xE cur tu ca : Int32} {c a nm nv ps pst psk jm cp stk em ce rp ct cm : Nat → Int32}
variable {D E p t l : Nat}
theorem sx_put {post : SX → Prop} {x : Int32} (hD : D < 16) (hp : post (xT, tr, ep, ind, vc, pc, nI (D + 1), xE, cur, tu, ca, c, a, nm, nv, ps, pst, psk, jm, cp, upd stk D x, em, ce, rp, ct, cm)) : wpX_put post (xT, tr, ep, ind, vc, pc, nI D, xE, cur, tu, ca, c, a, nm, nv, ps, pst, psk, jm, cp, stk, em, ce, rp, ct, cm) x := by
  refine ⟨vp_in_nI (n := D) (by omega) (by decide), ?_⟩
  rw [nI_clamp (n := D) (by omega)]
  exact nm_e (nm_r (nI_1 D) hp)
theorem sx_take {post : Int32 → SX → Prop} (hD : D < 16) (hp : post (stk D) (xT, tr, ep, ind, vc, pc, nI D, xE, cur, tu, ca, c, a, nm, nv, ps, pst, psk, jm, cp, stk, em, ce, rp, ct, cm)) : wpX_take post (xT, tr, ep, ind, vc, pc, nI (D + 1), xE, cur, tu, ca, c, a, nm, nv, ps, pst, psk, jm, cp, stk, em, ce, rp, ct, cm) := by
  refine nm_r (nI_pred D) ⟨vp_in_nI (n := D) (by omega) (by decide), ?_⟩
  rw [nI_clamp (n := D) (by omega)]
  exact hp
theorem sx_calc {post : SX → Prop} {x r : Int32} (hD : D + 2 ≤ 16) (hr : ∀ post' : Int32 → Prop, post' r → wpX_resultOf post' (xT, tr, ep, ind, vc, pc, nI D, xE, cur, tu, ca, c, a, nm, nv, ps, pst, psk, jm, cp, stk, em, ce, rp, ct, cm) x (stk D) (stk (D + 1))) (hp : post (xT, tr, ep, ind, vc, pc, nI (D + 1), xE, cur, tu, ca, c, a, nm, nv, ps, pst, psk, jm, cp, upd stk D r, em, ce, rp, ct, cm)) : wpX_calculate post (xT, tr, ep, ind, vc, pc, nI (D + 2), xE, cur, tu, ca, c, a, nm, nv, ps, pst, psk, jm, cp, stk, em, ce, rp, ct, cm) x := by
  unfold wpX_calculate
  refine sx_take (D := D + 1) (by omega) ?_
  refine sx_take (D := D) (by omega) ?_
  refine hr _ ?_
  exact sx_put (by omega) hp
theorem sx_up1 {post : SX → Prop} (hD : D + 2 ≤ 16) (hp : post (xT, tr, ep, ind, vc, pc, nI (D + 2), xE, cur, tu, ca, c, a, nm, nv, ps, pst, psk, jm, cp, upd (upd stk D (stk (D + 1))) (D + 1) (stk D), em, ce, rp, ct, cm)) : wpX_bringUp post (xT, tr, ep, ind, vc, pc, nI (D + 2), xE, cur, tu, ca, c, a, nm, nv, ps, pst, psk, jm, cp, stk, em, ce, rp, ct, cm) 1 := by
  have e0 : nI (D + 1) - 1 = nI D := nI_pred D
  refine nm_r (nI_pred (D + 1)) ?_
  rw [e0]
  refine ⟨vp_in_nI (n := D) (by omega) (by decide), ?_⟩
  rw [nI_clamp (n := D) (by omega)]
  refine nm_e (nm_e ⟨2, br_f (nI_ge (by omega) (by omega)) ⟨?_, vp_in_nI (n := D) (by omega) (by decide), ?_⟩⟩)
  · rw [nI_1]; exact vp_in_nI (by omega) (by decide)
  · rw [nI_1, nI_clamp (n := D) (by omega), nI_clamp (n := D + 1) (by omega)]
    refine nm_e (nm_e (br_t (nI_le (Nat.le_refl _) (by omega)) ⟨vp_in_nI (by omega) (by decide), ?_⟩))
    rw [nI_clamp (n := D + 1) (by omega)]
    exact nm_e hp
theorem sx_up2 {post : SX → Prop} (hD : D + 3 ≤ 16) (hp : post (xT, tr, ep, ind, vc, pc, nI (D + 3), xE, cur, tu, ca, c, a, nm, nv, ps, pst, psk, jm, cp, upd (upd (upd stk D (stk (D + 1))) (D + 1) (stk (D + 2))) (D + 2) (stk D), em, ce, rp, ct, cm)) : wpX_bringUp post (xT, tr, ep, ind, vc, pc, nI (D + 3), xE, cur, tu, ca, c, a, nm, nv, ps, pst, psk, jm, cp, stk, em, ce, rp, ct, cm) 2 := by
  have e0 : nI (D + 2) - 2 = nI D := pk_sub (a := D + 2) (b := 2) (by omega)
  refine nm_r (nI_pred (D + 2)) ?_
  rw [e0]
  refine ⟨vp_in_nI (n := D) (by omega) (by decide), ?_⟩
  rw [nI_clamp (n := D) (by omega)]
  refine nm_e (nm_e ⟨3, br_f (nI_ge (by omega) (by omega)) ⟨?_, vp_in_nI (n := D) (by omega) (by decide), ?_⟩⟩)
  · rw [nI_1]; exact vp_in_nI (by omega) (by decide)
  · rw [nI_1, nI_clamp (n := D) (by omega), nI_clamp (n := D + 1) (by omega)]
    refine nm_e (nm_e (br_f (nI_ge (by omega) (by omega)) ⟨?_, vp_in_nI (n := D + 1) (by omega) (by decide), ?_⟩))
    · rw [nI_1]; exact vp_in_nI (by omega) (by decide)
    · rw [nI_1, nI_clamp (n := D + 1) (by omega), nI_clamp (n := D + 1 + 1) (by omega)]
      refine nm_e (nm_e (br_t (nI_le (Nat.le_refl _) (by omega)) ⟨vp_in_nI (by omega) (by decide), ?_⟩))
      rw [nI_clamp (n := D + 2) (by omega), pk_un (by omega)]
      exact nm_e hp
theorem sx_cot {post : Int32 → Prop} {m : Nat} (hp : p < 80) (e : cp p = nI m) (h : post (nI (l * 6 + m))) : wpX_countOfToken post (xT, tr, ep, ind, vc, pc, xD, xE, nI p, tu, nI (l + 1), c, a, nm, nv, ps, pst, psk, jm, cp, stk, em, ce, rp, ct, cm) := by
  refine ⟨vp_in_nI (n := p) hp (by decide), ?_⟩
  rw [nI_pred, nI_clamp (n := p) (by omega), e, show nI l * 6 = nI (l * 6) from pk_mul l 6, nI_add]
  exact h
theorem sx_tback {post : SX → Prop} {b : Int32} (hp : p < 80) (e : jm p = b) (h : post (xT, tr, ep, ind, vc, pc, xD, xE, b, nI (t + 1), ca, c, a, nm, nv, ps, pst, psk, jm, cp, stk, em, ce, rp, ct, cm)) : wpX_turnBack post (xT, tr, ep, ind, vc, pc, xD, xE, nI p, nI t, ca, c, a, nm, nv, ps, pst, psk, jm, cp, stk, em, ce, rp, ct, cm) := by
  refine nm_r (nI_1 t) ⟨vp_in_nI (n := p) hp (by decide), ?_⟩
  rw [nI_clamp (n := p) (by omega), e]
  exact nm_e h
theorem sx_untT {post : SX → Prop} {b : Int32} (hp : p < 80) (hD : D < 16) (hz : stk D = 0) (e : jm p = b) (h : post (xT, tr, ep, ind, vc, pc, nI D, xE, b, nI (t + 1), ca, c, a, nm, nv, ps, pst, psk, jm, cp, stk, em, ce, rp, ct, cm)) : wpX_endUntil post (xT, tr, ep, ind, vc, pc, nI (D + 1), xE, nI p, nI t, ca, c, a, nm, nv, ps, pst, psk, jm, cp, stk, em, ce, rp, ct, cm) := by
  unfold wpX_endUntil
  refine sx_take hD ?_
  refine br_t hz ?_
  exact sx_tback hp e h
theorem sx_untF {post : SX → Prop} (hD : D < 16) (hz : ¬ stk D = 0) (h : post (xT, tr, ep, ind, vc, pc, nI D, xE, nI (p + 1), tu, ca, c, a, nm, nv, ps, pst, psk, jm, cp, stk, em, ce, rp, ct, cm)) : wpX_endUntil post (xT, tr, ep, ind, vc, pc, nI (D + 1), xE, nI p, tu, ca, c, a, nm, nv, ps, pst, psk, jm, cp, stk, em, ce, rp, ct, cm) := by
  unfold wpX_endUntil
  refine sx_take hD ?_
  exact br_f hz (nm_r (nI_1 p) h)
theorem sx_84T {post : SX → Prop} {b : Int32} (hp : p < 80) (hD : D < 16) (hz : stk D = 0) (e : jm p = b) (h : post (xT, tr, ep, ind, vc, pc, nI D, xE, b, tu, ca, c, a, nm, nv, ps, pst, psk, jm, cp, stk, em, ce, rp, ct, cm)) : wX_goOn_84 post xT tr ep ind vc pc (nI (D + 1)) xE (nI p) tu ca c a nm nv ps pst psk jm cp stk em ce rp ct cm := by
  unfold wX_goOn_84
  refine sx_take hD ?_
  refine br_t hz ⟨vp_in_nI (n := p) hp (by decide), ?_⟩
  rw [nI_clamp (n := p) (by omega), e]
  exact nm_e h
theorem sx_84F {post : SX → Prop} (hD : D < 16) (hz : ¬ stk D = 0) (h : post (xT, tr, ep, ind, vc, pc, nI D, xE, nI (p + 1), tu, ca, c, a, nm, nv, ps, pst, psk, jm, cp, stk, em, ce, rp, ct, cm)) : wX_goOn_84 post xT tr ep ind vc pc (nI (D + 1)) xE (nI p) tu ca c a nm nv ps pst psk jm cp stk em ce rp ct cm := by
  unfold wX_goOn_84
  refine sx_take hD ?_
  exact br_f hz (nm_r (nI_1 p) h)
theorem sx_scT {post : SX → Prop} {m : Nat} (hp : p < 80) (hD : D < 16) (hz : 0 < stk D) (e : cp p = nI m) (hm : l * 6 + m < 48) (h : post (xT, tr, ep, ind, vc, pc, nI D, xE, nI (p + 1), tu, nI (l + 1), c, a, nm, nv, ps, pst, psk, jm, cp, stk, em, ce, rp, upd ct (l * 6 + m) 0, upd cm (l * 6 + m) (stk D))) : wpX_startCount post (xT, tr, ep, ind, vc, pc, nI (D + 1), xE, nI p, tu, nI (l + 1), c, a, nm, nv, ps, pst, psk, jm, cp, stk, em, ce, rp, ct, cm) := by
  unfold wpX_startCount
  refine sx_take hD ?_
  refine br_t hz ?_
  refine sx_cot hp e ?_
  refine ⟨vp_in_nI hm (by decide), ?_⟩
  rw [nI_clamp (n := l * 6 + m) (by omega)]
  exact nm_e ⟨vp_in_nI hm (by decide), nm_e (nm_r (nI_1 p) h)⟩
theorem sx_scF {post : SX → Prop} {b : Int32} (hp : p < 80) (hD : D < 16) (hz : ¬ 0 < stk D) (e : jm p = b) (h : post (xT, tr, ep, ind, vc, pc, nI D, xE, b, tu, ca, c, a, nm, nv, ps, pst, psk, jm, cp, stk, em, ce, rp, ct, cm)) : wpX_startCount post (xT, tr, ep, ind, vc, pc, nI (D + 1), xE, nI p, tu, ca, c, a, nm, nv, ps, pst, psk, jm, cp, stk, em, ce, rp, ct, cm) := by
  unfold wpX_startCount
  refine sx_take hD ?_
  refine br_f hz ⟨vp_in_nI (n := p) hp (by decide), ?_⟩
  rw [nI_clamp (n := p) (by omega), e]
  exact nm_e h
theorem sx_acT {post : SX → Prop} {m : Nat} (hp : p < 80) (e : cp p = nI m) (hm : l * 6 + m < 48) (hc : cm (l * 6 + m) ≤ ct (l * 6 + m) + 1) (h : post (xT, tr, ep, ind, vc, pc, xD, xE, nI (p + 1), nI (t + 1), nI (l + 1), c, a, nm, nv, ps, pst, psk, jm, cp, stk, em, ce, rp, upd ct (l * 6 + m) (ct (l * 6 + m) + 1), cm)) : wpX_advanceCount post (xT, tr, ep, ind, vc, pc, xD, xE, nI p, nI t, nI (l + 1), c, a, nm, nv, ps, pst, psk, jm, cp, stk, em, ce, rp, ct, cm) := by
  unfold wpX_advanceCount
  refine sx_cot hp e ?_
  refine (nm_r (nI_1 t) ⟨vp_in_nI hm (by decide), vp_in_nI hm (by decide), ?_⟩)
  rw [nI_clamp (n := l * 6 + m) (by omega)]
  refine nm_e ⟨vp_in_nI hm (by decide), vp_in_nI hm (by decide), br_t ?_ (nm_r (nI_1 p) h)⟩
  rw [pk_us]; exact hc
theorem sx_acF {post : SX → Prop} {m : Nat} {b : Int32} (hp : p < 80) (e : cp p = nI m) (hm : l * 6 + m < 48) (hc : ¬ cm (l * 6 + m) ≤ ct (l * 6 + m) + 1) (ej : jm p = b) (h : post (xT, tr, ep, ind, vc, pc, xD, xE, b, nI (t + 1), nI (l + 1), c, a, nm, nv, ps, pst, psk, jm, cp, stk, em, ce, rp, upd ct (l * 6 + m) (ct (l * 6 + m) + 1), cm)) : wpX_advanceCount post (xT, tr, ep, ind, vc, pc, xD, xE, nI p, nI t, nI (l + 1), c, a, nm, nv, ps, pst, psk, jm, cp, stk, em, ce, rp, ct, cm) := by
  unfold wpX_advanceCount
  refine sx_cot hp e ?_
  refine (nm_r (nI_1 t) ⟨vp_in_nI hm (by decide), vp_in_nI hm (by decide), ?_⟩)
  rw [nI_clamp (n := l * 6 + m) (by omega)]
  refine nm_e ⟨vp_in_nI hm (by decide), vp_in_nI hm (by decide), br_f ?_ ⟨vp_in_nI (n := p) hp (by decide), ?_⟩⟩
  · rw [pk_us]; exact hc
  · rw [nI_clamp (n := p) (by omega), ej]
    exact nm_e h
theorem sx_pc {post : SX → Prop} {m : Nat} (hp : p < 80) (hD : D < 16) (e : cp p = nI m) (hm : l * 6 + m < 48) (h : post (xT, tr, ep, ind, vc, pc, nI (D + 1), xE, nI (p + 1), tu, nI (l + 1), c, a, nm, nv, ps, pst, psk, jm, cp, upd stk D (ct (l * 6 + m)), em, ce, rp, ct, cm)) : wpX_putCount post (xT, tr, ep, ind, vc, pc, nI D, xE, nI p, tu, nI (l + 1), c, a, nm, nv, ps, pst, psk, jm, cp, stk, em, ce, rp, ct, cm) := by
  unfold wpX_putCount
  refine sx_cot hp e ?_
  refine ⟨vp_in_nI hm (by decide), ?_⟩
  rw [nI_clamp (n := l * 6 + m) (by omega)]
  exact sx_put hD (nm_r (nI_1 p) h)
theorem sx_ec {post : SX → Prop} (hl : l < 8) (h : post (xT, tr, ep, ind, vc, pc, xD, xE, rp l, tu, nI l, c, a, nm, nv, ps, pst, psk, jm, cp, stk, em, ce, rp, ct, cm)) : wpX_endCall post (xT, tr, ep, ind, vc, pc, xD, xE, cur, tu, nI (l + 1), c, a, nm, nv, ps, pst, psk, jm, cp, stk, em, ce, rp, ct, cm) := by
  refine nm_r (nI_pred l) ⟨vp_in_nI hl (by decide), ?_⟩
  rw [nI_clamp (n := l) (by omega)]
  exact nm_e h
theorem sx_unV {post : SX → Prop} {n : Nat} (hn : n < 12) (hD : D < 16) (e : nm n = 2) (h : post (xT, tr, ep, ind, vc, pc, nI (D + 1), xE, nI (p + 1), tu, ca, c, a, nm, nv, ps, pst, psk, jm, cp, upd stk D (nv n), em, ce, rp, ct, cm)) : wpX_useName post (xT, tr, ep, ind, vc, pc, nI D, xE, nI p, tu, ca, c, a, nm, nv, ps, pst, psk, jm, cp, stk, em, ce, rp, ct, cm) (nI n) := by
  refine ⟨vp_in_nI hn (by decide), ?_⟩
  rw [nI_clamp (n := n) (by omega)]
  exact br_t e ⟨vp_in_nI hn (by decide), sx_put hD (nm_r (nI_1 p) h)⟩
theorem sx_unW {post : SX → Prop} {n : Nat} (hn : n < 12) (hl : l < 8) (e : ¬ nm n = 2) (h : post (xT, tr, ep, ind, vc, pc, xD, xE, nv n, nI (t + 1), nI (l + 1), c, a, nm, nv, ps, pst, psk, jm, cp, stk, em, ce, upd rp l (nI (p + 1)), ct, cm)) : wpX_useName post (xT, tr, ep, ind, vc, pc, xD, xE, nI p, nI t, nI l, c, a, nm, nv, ps, pst, psk, jm, cp, stk, em, ce, rp, ct, cm) (nI n) := by
  refine ⟨vp_in_nI hn (by decide), ?_⟩
  rw [nI_clamp (n := n) (by omega)]
  refine br_f e (nm_r (nI_1 t) ⟨vp_in_nI hl (by decide), ?_⟩)
  rw [nI_clamp (n := l) (by omega), nI_1]
  exact nm_e (nm_r (nI_1 l) ⟨vp_in_nI hn (by decide), nm_e h⟩)
theorem sx_mv12 {post : SX → Prop} {n : Nat} (hn : n < 12) (hD : D < 16) (e : stk D = nI n) (h : post (xT, tr, ep, ind, vc, pc, nI (D + 1), xE, cur, tu, ca, c, a, nm, nv, ps, pst, psk, jm, cp, upd stk D (ce n), em, ce, rp, ct, cm)) : wpX_moveNumber post (xT, tr, ep, ind, vc, pc, nI (D + 1), xE, cur, tu, ca, c, a, nm, nv, ps, pst, psk, jm, cp, stk, em, ce, rp, ct, cm) 12 := by
  unfold wpX_moveNumber
  refine sx_take hD ?_
  rw [e, nI_clamp (n := n) (by omega)]
  exact br_t rfl ⟨vp_in_nI hn (by decide), sx_put hD h⟩
theorem sx_mv13 {post : SX → Prop} {n : Nat} (hn : n < 12) (hD : D + 2 ≤ 16) (e : stk (D + 1) = nI n) (h : post (xT, tr, ep, ind, vc, pc, nI D, xE, cur, tu, ca, c, a, nm, nv, ps, pst, psk, jm, cp, stk, em, upd ce n (stk D), rp, ct, cm)) : wpX_moveNumber post (xT, tr, ep, ind, vc, pc, nI (D + 2), xE, cur, tu, ca, c, a, nm, nv, ps, pst, psk, jm, cp, stk, em, ce, rp, ct, cm) 13 := by
  unfold wpX_moveNumber
  refine sx_take (D := D + 1) (by omega) ?_
  refine br_f (by decide) (br_t rfl ?_)
  refine sx_take (D := D) (by omega) ?_
  rw [e, nI_clamp (n := n) (by omega)]
  exact ⟨vp_in_nI hn (by decide), nm_e h⟩
theorem sx_mv14 {post : SX → Prop} (hE : E < 16) (hD : D < 16) (h : post (xT, tr, ep, ind, vc, pc, nI D, nI (E + 1), cur, tu, ca, c, a, nm, nv, ps, pst, psk, jm, cp, stk, upd em E (stk D), ce, rp, ct, cm)) : wpX_moveNumber post (xT, tr, ep, ind, vc, pc, nI (D + 1), nI E, cur, tu, ca, c, a, nm, nv, ps, pst, psk, jm, cp, stk, em, ce, rp, ct, cm) 14 := by
  unfold wpX_moveNumber
  refine sx_take hD ?_
  refine (br_f (by decide) (br_f (by decide) ⟨vp_in_nI hE (by decide), ?_⟩))
  rw [nI_clamp (n := E) (by omega)]
  exact nm_e (nm_r (nI_1 E) h)
end
section
variable {yT tr ep yD yE lv yt : Int32} {c a stk em ce po yc ye : Nat → Int32}
variable {D E p t l : Nat}
theorem sy_topz {post : Int32 → Prop} {j : Nat} (hj : j ≤ 2) (hD : D ≤ 16) (h : ∀ z : Int32, (j < D → z = stk (D - 1 - j)) → post z) : wpY_top post (yT, tr, ep, nI D, yE, lv, yt, c, a, stk, em, ce, po, yc, ye) (nI j) := by
  by_cases y : j < D
  · exact sy_top hD y (h _ (fun _ => rfl))
  · exact sy_top0 hD (by omega) (by omega) (h 0 (fun w => absurd w y))
theorem sy_cwN {post : Int32 → Prop} (hp : p < 80) (h : c p ≠ 15) (k : post 0) : wpY_callsWord post (yT, tr, ep, yD, yE, lv, yt, c, a, stk, em, ce, po, yc, ye) (nI p) := by
  refine ⟨vp_in_nI (n := p) hp (by decide), ?_⟩
  rw [nI_clamp (n := p) (by omega)]
  exact br_f h k
theorem sy_cwW {post : Int32 → Prop} {T q n : Nat} (h80 : T ≤ 80) (hp : p < T) (hq : q < T) (h : c p = 15) (ha : a p = nI n) (hd : sk_df c a q (nI n)) (hl : ∀ r, r < q → ¬ sk_df c a r (nI n)) (h26 : c q = 26) (k : post 1) : wpY_callsWord post (nI T, tr, ep, yD, yE, lv, yt, c, a, stk, em, ce, po, yc, ye) (nI p) := by
  refine ⟨vp_in_nI (n := p) (by omega) (by decide), ?_⟩
  rw [nI_clamp (n := p) (by omega), ha]
  refine br_t h ⟨vp_in_nI (n := p) (by omega) (by decide), sy_dfS h80 hq hd hl (br_f (nI_pos (by omega)) ⟨vp_in_nI (n := q) (by omega) (by decide), ?_⟩)⟩
  rw [nI_clamp (n := q) (by omega)]
  exact br_t h26 k
theorem sy_cwV {post : Int32 → Prop} {T q n : Nat} (h80 : T ≤ 80) (hp : p < T) (hq : q < T) (h : c p = 15) (ha : a p = nI n) (hd : sk_df c a q (nI n)) (hl : ∀ r, r < q → ¬ sk_df c a r (nI n)) (h26 : c q ≠ 26) (k : post 0) : wpY_callsWord post (nI T, tr, ep, yD, yE, lv, yt, c, a, stk, em, ce, po, yc, ye) (nI p) := by
  refine ⟨vp_in_nI (n := p) (by omega) (by decide), ?_⟩
  rw [nI_clamp (n := p) (by omega), ha]
  refine br_t h ⟨vp_in_nI (n := p) (by omega) (by decide), sy_dfS h80 hq hd hl (br_f (nI_pos (by omega)) ⟨vp_in_nI (n := q) (by omega) (by decide), ?_⟩)⟩
  rw [nI_clamp (n := q) (by omega)]
  exact br_f h26 k
end
end
section
section
variable {xT tr ep ind vc pc xD xE cur tu ca yT yD yE lv yt : Int32} {c a nm nv ps pst psk jm cp stk em ce rp ct cm po yc ye : Nat → Int32}
variable {T D E p t l : Nat}
theorem sx_nt0 {post : Int32 → Prop} (h : post 0) : wpX_numbersTaken post (xT, tr, ep, ind, vc, pc, xD, xE, cur, tu, ca, c, a, nm, nv, ps, pst, psk, jm, cp, stk, em, ce, rp, ct, cm) 0 := br_t (by decide) (h)
theorem sy_tk0 {post : Int32 → Prop} (h : post 0) : wpY_takes post 0 := br_t (by decide) (br_f (by decide) (br_f (by decide) (br_f (by decide) (br_f (by decide) (br_f (by decide) (br_f (by decide) (br_f (by decide) (br_f (by decide) (br_f (by decide) (br_f (by decide) (br_f (by decide) (br_f (by decide) (br_f (by decide) (br_f (by decide) (h)))))))))))))))
theorem sx_ns0 {post : Int32 → Prop} (h : post 0) : wpX_namedStop post (xT, tr, ep, ind, vc, pc, xD, xE, cur, tu, ca, c, a, nm, nv, ps, pst, psk, jm, cp, stk, em, ce, rp, ct, cm) 0 := br_t (by decide) (h)
theorem sx_ad0 {post : Int32 → Prop} (h : post 1) : wpX_addsNumber post (xT, tr, ep, ind, vc, pc, xD, xE, cur, tu, ca, c, a, nm, nv, ps, pst, psk, jm, cp, stk, em, ce, rp, ct, cm) 0 := br_t rfl (h)
theorem sx_nt1 {post : Int32 → Prop} (h : post 2) : wpX_numbersTaken post (xT, tr, ep, ind, vc, pc, xD, xE, cur, tu, ca, c, a, nm, nv, ps, pst, psk, jm, cp, stk, em, ce, rp, ct, cm) 1 := br_f (by decide) (br_f (by decide) (br_t rfl (h)))
theorem sy_tk1 {post : Int32 → Prop} (h : post 2) : wpY_takes post 1 := br_f (by decide) (br_t (by decide) (h))
theorem sx_ns1 {post : Int32 → Prop} (h : post 0) : wpX_namedStop post (xT, tr, ep, ind, vc, pc, xD, xE, cur, tu, ca, c, a, nm, nv, ps, pst, psk, jm, cp, stk, em, ce, rp, ct, cm) 1 := br_t (by decide) (h)
theorem sx_ad1 {post : Int32 → Prop} (h : post 0) : wpX_addsNumber post (xT, tr, ep, ind, vc, pc, xD, xE, cur, tu, ca, c, a, nm, nv, ps, pst, psk, jm, cp, stk, em, ce, rp, ct, cm) 1 := br_f (by decide) (br_f (by decide) (br_f (by decide) (br_f (by decide) (br_f (by decide) (h)))))
theorem sx_nt2 {post : Int32 → Prop} (h : post 2) : wpX_numbersTaken post (xT, tr, ep, ind, vc, pc, xD, xE, cur, tu, ca, c, a, nm, nv, ps, pst, psk, jm, cp, stk, em, ce, rp, ct, cm) 2 := br_f (by decide) (br_f (by decide) (br_f (by decide) (br_t rfl (h))))
theorem sy_tk2 {post : Int32 → Prop} (h : post 2) : wpY_takes post 2 := br_f (by decide) (br_t (by decide) (h))
theorem sx_ns2 {post : Int32 → Prop} (h : post 0) : wpX_namedStop post (xT, tr, ep, ind, vc, pc, xD, xE, cur, tu, ca, c, a, nm, nv, ps, pst, psk, jm, cp, stk, em, ce, rp, ct, cm) 2 := br_t (by decide) (h)
theorem sx_ad2 {post : Int32 → Prop} (h : post 0) : wpX_addsNumber post (xT, tr, ep, ind, vc, pc, xD, xE, cur, tu, ca, c, a, nm, nv, ps, pst, psk, jm, cp, stk, em, ce, rp, ct, cm) 2 := br_f (by decide) (br_f (by decide) (br_f (by decide) (br_f (by decide) (br_f (by decide) (h)))))
theorem sx_nt3 {post : Int32 → Prop} (h : post 2) : wpX_numbersTaken post (xT, tr, ep, ind, vc, pc, xD, xE, cur, tu, ca, c, a, nm, nv, ps, pst, psk, jm, cp, stk, em, ce, rp, ct, cm) 3 := br_f (by decide) (br_f (by decide) (br_f (by decide) (br_f (by decide) (br_t rfl (h)))))
theorem sy_tk3 {post : Int32 → Prop} (h : post 2) : wpY_takes post 3 := br_f (by decide) (br_t (by decide) (h))
theorem sx_ns3 {post : Int32 → Prop} (h : post 0) : wpX_namedStop post (xT, tr, ep, ind, vc, pc, xD, xE, cur, tu, ca, c, a, nm, nv, ps, pst, psk, jm, cp, stk, em, ce, rp, ct, cm) 3 := br_t (by decide) (h)
theorem sx_ad3 {post : Int32 → Prop} (h : post 0) : wpX_addsNumber post (xT, tr, ep, ind, vc, pc, xD, xE, cur, tu, ca, c, a, nm, nv, ps, pst, psk, jm, cp, stk, em, ce, rp, ct, cm) 3 := br_f (by decide) (br_f (by decide) (br_f (by decide) (br_f (by decide) (br_f (by decide) (h)))))
theorem sx_nt4 {post : Int32 → Prop} (h : post 2) : wpX_numbersTaken post (xT, tr, ep, ind, vc, pc, xD, xE, cur, tu, ca, c, a, nm, nv, ps, pst, psk, jm, cp, stk, em, ce, rp, ct, cm) 4 := br_f (by decide) (br_f (by decide) (br_f (by decide) (br_f (by decide) (br_f (by decide) (br_t rfl (h))))))
theorem sy_tk4 {post : Int32 → Prop} (h : post 2) : wpY_takes post 4 := br_f (by decide) (br_t (by decide) (h))
theorem sx_ad4 {post : Int32 → Prop} (h : post 0) : wpX_addsNumber post (xT, tr, ep, ind, vc, pc, xD, xE, cur, tu, ca, c, a, nm, nv, ps, pst, psk, jm, cp, stk, em, ce, rp, ct, cm) 4 := br_f (by decide) (br_f (by decide) (br_f (by decide) (br_f (by decide) (br_f (by decide) (h)))))
theorem sx_nt5 {post : Int32 → Prop} (h : post 1) : wpX_numbersTaken post (xT, tr, ep, ind, vc, pc, xD, xE, cur, tu, ca, c, a, nm, nv, ps, pst, psk, jm, cp, stk, em, ce, rp, ct, cm) 5 := br_f (by decide) (br_f (by decide) (br_f (by decide) (br_f (by decide) (br_f (by decide) (br_f (by decide) (br_t rfl (h)))))))
theorem sy_tk5 {post : Int32 → Prop} (h : post 1) : wpY_takes post 5 := br_f (by decide) (br_f (by decide) (br_f (by decide) (br_f (by decide) (br_f (by decide) (br_f (by decide) (br_f (by decide) (br_f (by decide) (br_t rfl (h)))))))))
theorem sx_ns5 {post : Int32 → Prop} (h : post 0) : wpX_namedStop post (xT, tr, ep, ind, vc, pc, xD, xE, cur, tu, ca, c, a, nm, nv, ps, pst, psk, jm, cp, stk, em, ce, rp, ct, cm) 5 := br_f (by decide) (br_f (by decide) (br_f (by decide) (br_t rfl (h))))
theorem sx_ad5 {post : Int32 → Prop} (h : post 1) : wpX_addsNumber post (xT, tr, ep, ind, vc, pc, xD, xE, cur, tu, ca, c, a, nm, nv, ps, pst, psk, jm, cp, stk, em, ce, rp, ct, cm) 5 := br_f (by decide) (br_t rfl (h))
theorem sx_nt6 {post : Int32 → Prop} (h : post 1) : wpX_numbersTaken post (xT, tr, ep, ind, vc, pc, xD, xE, cur, tu, ca, c, a, nm, nv, ps, pst, psk, jm, cp, stk, em, ce, rp, ct, cm) 6 := br_f (by decide) (br_f (by decide) (br_f (by decide) (br_f (by decide) (br_f (by decide) (br_f (by decide) (br_f (by decide) (br_t rfl (h))))))))
theorem sy_tk6 {post : Int32 → Prop} (h : post 1) : wpY_takes post 6 := br_f (by decide) (br_f (by decide) (br_f (by decide) (br_f (by decide) (br_f (by decide) (br_f (by decide) (br_f (by decide) (br_f (by decide) (br_f (by decide) (br_t rfl (h))))))))))
theorem sx_ns6 {post : Int32 → Prop} (h : post 0) : wpX_namedStop post (xT, tr, ep, ind, vc, pc, xD, xE, cur, tu, ca, c, a, nm, nv, ps, pst, psk, jm, cp, stk, em, ce, rp, ct, cm) 6 := br_f (by decide) (br_f (by decide) (br_f (by decide) (br_f (by decide) (br_t rfl (h)))))
theorem sx_ad6 {post : Int32 → Prop} (h : post 0) : wpX_addsNumber post (xT, tr, ep, ind, vc, pc, xD, xE, cur, tu, ca, c, a, nm, nv, ps, pst, psk, jm, cp, stk, em, ce, rp, ct, cm) 6 := br_f (by decide) (br_f (by decide) (br_f (by decide) (br_f (by decide) (br_f (by decide) (h)))))
theorem sx_nt7 {post : Int32 → Prop} (h : post 2) : wpX_numbersTaken post (xT, tr, ep, ind, vc, pc, xD, xE, cur, tu, ca, c, a, nm, nv, ps, pst, psk, jm, cp, stk, em, ce, rp, ct, cm) 7 := br_f (by decide) (br_f (by decide) (br_f (by decide) (br_f (by decide) (br_f (by decide) (br_f (by decide) (br_f (by decide) (br_f (by decide) (br_t rfl (h)))))))))
theorem sy_tk7 {post : Int32 → Prop} (h : post 2) : wpY_takes post 7 := br_f (by decide) (br_f (by decide) (br_t rfl (h)))
theorem sx_ns7 {post : Int32 → Prop} (h : post 0) : wpX_namedStop post (xT, tr, ep, ind, vc, pc, xD, xE, cur, tu, ca, c, a, nm, nv, ps, pst, psk, jm, cp, stk, em, ce, rp, ct, cm) 7 := br_f (by decide) (br_f (by decide) (br_f (by decide) (br_f (by decide) (br_f (by decide) (br_t rfl (h))))))
theorem sx_ad7 {post : Int32 → Prop} (h : post 0) : wpX_addsNumber post (xT, tr, ep, ind, vc, pc, xD, xE, cur, tu, ca, c, a, nm, nv, ps, pst, psk, jm, cp, stk, em, ce, rp, ct, cm) 7 := br_f (by decide) (br_f (by decide) (br_f (by decide) (br_f (by decide) (br_f (by decide) (h)))))
theorem sx_nt8 {post : Int32 → Prop} (h : post 2) : wpX_numbersTaken post (xT, tr, ep, ind, vc, pc, xD, xE, cur, tu, ca, c, a, nm, nv, ps, pst, psk, jm, cp, stk, em, ce, rp, ct, cm) 8 := br_f (by decide) (br_f (by decide) (br_f (by decide) (br_f (by decide) (br_f (by decide) (br_f (by decide) (br_f (by decide) (br_f (by decide) (br_f (by decide) (br_t rfl (h))))))))))
theorem sy_tk8 {post : Int32 → Prop} (h : post 2) : wpY_takes post 8 := br_f (by decide) (br_f (by decide) (br_f (by decide) (br_t rfl (h))))
theorem sx_ns8 {post : Int32 → Prop} (h : post 0) : wpX_namedStop post (xT, tr, ep, ind, vc, pc, xD, xE, cur, tu, ca, c, a, nm, nv, ps, pst, psk, jm, cp, stk, em, ce, rp, ct, cm) 8 := br_f (by decide) (br_f (by decide) (br_f (by decide) (br_f (by decide) (br_f (by decide) (br_f (by decide) (br_t rfl (h)))))))
theorem sx_ad8 {post : Int32 → Prop} (h : post 1) : wpX_addsNumber post (xT, tr, ep, ind, vc, pc, xD, xE, cur, tu, ca, c, a, nm, nv, ps, pst, psk, jm, cp, stk, em, ce, rp, ct, cm) 8 := br_f (by decide) (br_f (by decide) (br_t rfl (h)))
theorem sx_nt9 {post : Int32 → Prop} (h : post 3) : wpX_numbersTaken post (xT, tr, ep, ind, vc, pc, xD, xE, cur, tu, ca, c, a, nm, nv, ps, pst, psk, jm, cp, stk, em, ce, rp, ct, cm) 9 := br_f (by decide) (br_f (by decide) (br_f (by decide) (br_f (by decide) (br_f (by decide) (br_f (by decide) (br_f (by decide) (br_f (by decide) (br_f (by decide) (br_f (by decide) (br_t rfl (h)))))))))))
theorem sy_tk9 {post : Int32 → Prop} (h : post 3) : wpY_takes post 9 := br_f (by decide) (br_f (by decide) (br_f (by decide) (br_f (by decide) (br_f (by decide) (br_f (by decide) (br_f (by decide) (br_t rfl (h))))))))
theorem sx_ns9 {post : Int32 → Prop} (h : post 0) : wpX_namedStop post (xT, tr, ep, ind, vc, pc, xD, xE, cur, tu, ca, c, a, nm, nv, ps, pst, psk, jm, cp, stk, em, ce, rp, ct, cm) 9 := br_f (by decide) (br_f (by decide) (br_f (by decide) (br_f (by decide) (br_f (by decide) (br_f (by decide) (br_f (by decide) (br_t rfl (h))))))))
theorem sx_ad9 {post : Int32 → Prop} (h : post 0) : wpX_addsNumber post (xT, tr, ep, ind, vc, pc, xD, xE, cur, tu, ca, c, a, nm, nv, ps, pst, psk, jm, cp, stk, em, ce, rp, ct, cm) 9 := br_f (by decide) (br_f (by decide) (br_f (by decide) (br_f (by decide) (br_f (by decide) (h)))))
theorem sx_nt10 {post : Int32 → Prop} (h : post 2) : wpX_numbersTaken post (xT, tr, ep, ind, vc, pc, xD, xE, cur, tu, ca, c, a, nm, nv, ps, pst, psk, jm, cp, stk, em, ce, rp, ct, cm) 10 := br_f (by decide) (br_f (by decide) (br_f (by decide) (br_f (by decide) (br_f (by decide) (br_f (by decide) (br_f (by decide) (br_f (by decide) (br_f (by decide) (br_f (by decide) (br_f (by decide) (br_t rfl (h))))))))))))
theorem sy_tk10 {post : Int32 → Prop} (h : post 2) : wpY_takes post 10 := br_f (by decide) (br_f (by decide) (br_f (by decide) (br_f (by decide) (br_t rfl (h)))))
theorem sx_ns10 {post : Int32 → Prop} (h : post 0) : wpX_namedStop post (xT, tr, ep, ind, vc, pc, xD, xE, cur, tu, ca, c, a, nm, nv, ps, pst, psk, jm, cp, stk, em, ce, rp, ct, cm) 10 := br_f (by decide) (br_f (by decide) (br_f (by decide) (br_f (by decide) (br_f (by decide) (br_f (by decide) (br_f (by decide) (br_f (by decide) (br_t rfl (h)))))))))
theorem sx_ad10 {post : Int32 → Prop} (h : post 0) : wpX_addsNumber post (xT, tr, ep, ind, vc, pc, xD, xE, cur, tu, ca, c, a, nm, nv, ps, pst, psk, jm, cp, stk, em, ce, rp, ct, cm) 10 := br_f (by decide) (br_f (by decide) (br_f (by decide) (br_f (by decide) (br_f (by decide) (h)))))
theorem sx_nt11 {post : Int32 → Prop} (h : post 2) : wpX_numbersTaken post (xT, tr, ep, ind, vc, pc, xD, xE, cur, tu, ca, c, a, nm, nv, ps, pst, psk, jm, cp, stk, em, ce, rp, ct, cm) 11 := br_f (by decide) (br_f (by decide) (br_f (by decide) (br_f (by decide) (br_f (by decide) (br_f (by decide) (br_f (by decide) (br_f (by decide) (br_f (by decide) (br_f (by decide) (br_f (by decide) (br_f (by decide) (br_t rfl (h)))))))))))))
theorem sy_tk11 {post : Int32 → Prop} (h : post 2) : wpY_takes post 11 := br_f (by decide) (br_f (by decide) (br_f (by decide) (br_f (by decide) (br_f (by decide) (br_t rfl (h))))))
theorem sx_ns11 {post : Int32 → Prop} (h : post 0) : wpX_namedStop post (xT, tr, ep, ind, vc, pc, xD, xE, cur, tu, ca, c, a, nm, nv, ps, pst, psk, jm, cp, stk, em, ce, rp, ct, cm) 11 := br_f (by decide) (br_f (by decide) (br_f (by decide) (br_f (by decide) (br_f (by decide) (br_f (by decide) (br_f (by decide) (br_f (by decide) (br_f (by decide) (br_t rfl (h))))))))))
theorem sx_ad11 {post : Int32 → Prop} (h : post 0) : wpX_addsNumber post (xT, tr, ep, ind, vc, pc, xD, xE, cur, tu, ca, c, a, nm, nv, ps, pst, psk, jm, cp, stk, em, ce, rp, ct, cm) 11 := br_f (by decide) (br_f (by decide) (br_f (by decide) (br_f (by decide) (br_f (by decide) (h)))))
theorem sx_nt12 {post : Int32 → Prop} (h : post 1) : wpX_numbersTaken post (xT, tr, ep, ind, vc, pc, xD, xE, cur, tu, ca, c, a, nm, nv, ps, pst, psk, jm, cp, stk, em, ce, rp, ct, cm) 12 := br_f (by decide) (br_f (by decide) (br_f (by decide) (br_f (by decide) (br_f (by decide) (br_f (by decide) (br_f (by decide) (br_f (by decide) (br_f (by decide) (br_f (by decide) (br_f (by decide) (br_f (by decide) (br_f (by decide) (br_t rfl (h))))))))))))))
theorem sy_tk12 {post : Int32 → Prop} (h : post 1) : wpY_takes post 12 := br_f (by decide) (br_f (by decide) (br_f (by decide) (br_f (by decide) (br_f (by decide) (br_f (by decide) (br_f (by decide) (br_f (by decide) (br_f (by decide) (br_f (by decide) (br_t rfl (h)))))))))))
theorem sx_ad12 {post : Int32 → Prop} (h : post 0) : wpX_addsNumber post (xT, tr, ep, ind, vc, pc, xD, xE, cur, tu, ca, c, a, nm, nv, ps, pst, psk, jm, cp, stk, em, ce, rp, ct, cm) 12 := br_f (by decide) (br_f (by decide) (br_f (by decide) (br_f (by decide) (br_f (by decide) (h)))))
theorem sx_nt13 {post : Int32 → Prop} (h : post 2) : wpX_numbersTaken post (xT, tr, ep, ind, vc, pc, xD, xE, cur, tu, ca, c, a, nm, nv, ps, pst, psk, jm, cp, stk, em, ce, rp, ct, cm) 13 := br_f (by decide) (br_f (by decide) (br_f (by decide) (br_f (by decide) (br_f (by decide) (br_f (by decide) (br_f (by decide) (br_f (by decide) (br_f (by decide) (br_f (by decide) (br_f (by decide) (br_f (by decide) (br_f (by decide) (br_f (by decide) (br_t rfl (h)))))))))))))))
theorem sy_tk13 {post : Int32 → Prop} (h : post 2) : wpY_takes post 13 := br_f (by decide) (br_f (by decide) (br_f (by decide) (br_f (by decide) (br_f (by decide) (br_f (by decide) (br_t rfl (h)))))))
theorem sx_ad13 {post : Int32 → Prop} (h : post 0) : wpX_addsNumber post (xT, tr, ep, ind, vc, pc, xD, xE, cur, tu, ca, c, a, nm, nv, ps, pst, psk, jm, cp, stk, em, ce, rp, ct, cm) 13 := br_f (by decide) (br_f (by decide) (br_f (by decide) (br_f (by decide) (br_f (by decide) (h)))))
theorem sx_nt14 {post : Int32 → Prop} (h : post 1) : wpX_numbersTaken post (xT, tr, ep, ind, vc, pc, xD, xE, cur, tu, ca, c, a, nm, nv, ps, pst, psk, jm, cp, stk, em, ce, rp, ct, cm) 14 := br_f (by decide) (br_f (by decide) (br_f (by decide) (br_f (by decide) (br_f (by decide) (br_f (by decide) (br_f (by decide) (br_f (by decide) (br_f (by decide) (br_f (by decide) (br_f (by decide) (br_f (by decide) (br_f (by decide) (br_f (by decide) (br_f (by decide) (br_t rfl (h))))))))))))))))
theorem sy_tk14 {post : Int32 → Prop} (h : post 1) : wpY_takes post 14 := br_f (by decide) (br_f (by decide) (br_f (by decide) (br_f (by decide) (br_f (by decide) (br_f (by decide) (br_f (by decide) (br_f (by decide) (br_f (by decide) (br_f (by decide) (br_f (by decide) (br_t rfl (h))))))))))))
theorem sx_ad14 {post : Int32 → Prop} (h : post 0) : wpX_addsNumber post (xT, tr, ep, ind, vc, pc, xD, xE, cur, tu, ca, c, a, nm, nv, ps, pst, psk, jm, cp, stk, em, ce, rp, ct, cm) 14 := br_f (by decide) (br_f (by decide) (br_f (by decide) (br_f (by decide) (br_f (by decide) (h)))))
theorem sx_nt15 {post : Int32 → Prop} (h : post 0) : wpX_numbersTaken post (xT, tr, ep, ind, vc, pc, xD, xE, cur, tu, ca, c, a, nm, nv, ps, pst, psk, jm, cp, stk, em, ce, rp, ct, cm) 15 := br_f (by decide) (br_f (by decide) (br_f (by decide) (br_f (by decide) (br_f (by decide) (br_f (by decide) (br_f (by decide) (br_f (by decide) (br_f (by decide) (br_f (by decide) (br_f (by decide) (br_f (by decide) (br_f (by decide) (br_f (by decide) (br_f (by decide) (br_f (by decide) (br_t rfl (h)))))))))))))))))
theorem sy_tk15 {post : Int32 → Prop} (h : post 0) : wpY_takes post 15 := br_f (by decide) (br_f (by decide) (br_f (by decide) (br_f (by decide) (br_f (by decide) (br_f (by decide) (br_f (by decide) (br_f (by decide) (br_f (by decide) (br_f (by decide) (br_f (by decide) (br_f (by decide) (br_f (by decide) (br_f (by decide) (br_f (by decide) (br_f (by decide) (h))))))))))))))))
theorem sx_nt16 {post : Int32 → Prop} (h : post 1) : wpX_numbersTaken post (xT, tr, ep, ind, vc, pc, xD, xE, cur, tu, ca, c, a, nm, nv, ps, pst, psk, jm, cp, stk, em, ce, rp, ct, cm) 16 := br_f (by decide) (br_f (by decide) (br_f (by decide) (br_f (by decide) (br_f (by decide) (br_f (by decide) (br_f (by decide) (br_f (by decide) (br_f (by decide) (br_f (by decide) (br_f (by decide) (br_f (by decide) (br_f (by decide) (br_f (by decide) (br_f (by decide) (br_f (by decide) (br_f (by decide) (br_t rfl (h))))))))))))))))))
theorem sy_tk16 {post : Int32 → Prop} (h : post 1) : wpY_takes post 16 := br_f (by decide) (br_f (by decide) (br_f (by decide) (br_f (by decide) (br_f (by decide) (br_f (by decide) (br_f (by decide) (br_f (by decide) (br_f (by decide) (br_f (by decide) (br_f (by decide) (br_f (by decide) (br_t rfl (h)))))))))))))
theorem sx_ns16 {post : Int32 → Prop} (h : post 0) : wpX_namedStop post (xT, tr, ep, ind, vc, pc, xD, xE, cur, tu, ca, c, a, nm, nv, ps, pst, psk, jm, cp, stk, em, ce, rp, ct, cm) 16 := br_f (by decide) (br_f (by decide) (br_f (by decide) (br_f (by decide) (br_f (by decide) (br_f (by decide) (br_f (by decide) (br_f (by decide) (br_f (by decide) (br_f (by decide) (br_f (by decide) (br_f (by decide) (br_f (by decide) (br_f (by decide) (br_t rfl (h)))))))))))))))
theorem sx_ad16 {post : Int32 → Prop} (h : post 0) : wpX_addsNumber post (xT, tr, ep, ind, vc, pc, xD, xE, cur, tu, ca, c, a, nm, nv, ps, pst, psk, jm, cp, stk, em, ce, rp, ct, cm) 16 := br_f (by decide) (br_f (by decide) (br_f (by decide) (br_f (by decide) (br_f (by decide) (h)))))
theorem sx_nt17 {post : Int32 → Prop} (h : post 0) : wpX_numbersTaken post (xT, tr, ep, ind, vc, pc, xD, xE, cur, tu, ca, c, a, nm, nv, ps, pst, psk, jm, cp, stk, em, ce, rp, ct, cm) 17 := br_f (by decide) (br_f (by decide) (br_f (by decide) (br_f (by decide) (br_f (by decide) (br_f (by decide) (br_f (by decide) (br_f (by decide) (br_f (by decide) (br_f (by decide) (br_f (by decide) (br_f (by decide) (br_f (by decide) (br_f (by decide) (br_f (by decide) (br_f (by decide) (br_f (by decide) (br_f (by decide) (br_t rfl (h)))))))))))))))))))
theorem sy_tk17 {post : Int32 → Prop} (h : post 0) : wpY_takes post 17 := br_f (by decide) (br_f (by decide) (br_f (by decide) (br_f (by decide) (br_f (by decide) (br_f (by decide) (br_f (by decide) (br_f (by decide) (br_f (by decide) (br_f (by decide) (br_f (by decide) (br_f (by decide) (br_f (by decide) (br_f (by decide) (br_f (by decide) (br_f (by decide) (h))))))))))))))))
theorem sx_ns17 {post : Int32 → Prop} (h : post 0) : wpX_namedStop post (xT, tr, ep, ind, vc, pc, xD, xE, cur, tu, ca, c, a, nm, nv, ps, pst, psk, jm, cp, stk, em, ce, rp, ct, cm) 17 := br_f (by decide) (br_f (by decide) (br_f (by decide) (br_f (by decide) (br_f (by decide) (br_f (by decide) (br_f (by decide) (br_f (by decide) (br_f (by decide) (br_f (by decide) (br_f (by decide) (br_f (by decide) (br_f (by decide) (br_f (by decide) (br_f (by decide) (br_t rfl (h))))))))))))))))
theorem sx_ad17 {post : Int32 → Prop} (h : post 0) : wpX_addsNumber post (xT, tr, ep, ind, vc, pc, xD, xE, cur, tu, ca, c, a, nm, nv, ps, pst, psk, jm, cp, stk, em, ce, rp, ct, cm) 17 := br_f (by decide) (br_f (by decide) (br_f (by decide) (br_f (by decide) (br_f (by decide) (h)))))
theorem sx_nt18 {post : Int32 → Prop} (h : post 0) : wpX_numbersTaken post (xT, tr, ep, ind, vc, pc, xD, xE, cur, tu, ca, c, a, nm, nv, ps, pst, psk, jm, cp, stk, em, ce, rp, ct, cm) 18 := br_f (by decide) (br_f (by decide) (br_f (by decide) (br_f (by decide) (br_f (by decide) (br_f (by decide) (br_f (by decide) (br_f (by decide) (br_f (by decide) (br_f (by decide) (br_f (by decide) (br_f (by decide) (br_f (by decide) (br_f (by decide) (br_f (by decide) (br_f (by decide) (br_f (by decide) (br_f (by decide) (br_f (by decide) (br_t rfl (h))))))))))))))))))))
theorem sy_tk18 {post : Int32 → Prop} (h : post 0) : wpY_takes post 18 := br_f (by decide) (br_f (by decide) (br_f (by decide) (br_f (by decide) (br_f (by decide) (br_f (by decide) (br_f (by decide) (br_f (by decide) (br_f (by decide) (br_f (by decide) (br_f (by decide) (br_f (by decide) (br_f (by decide) (br_f (by decide) (br_f (by decide) (br_f (by decide) (h))))))))))))))))
theorem sx_ns18 {post : Int32 → Prop} (h : post 0) : wpX_namedStop post (xT, tr, ep, ind, vc, pc, xD, xE, cur, tu, ca, c, a, nm, nv, ps, pst, psk, jm, cp, stk, em, ce, rp, ct, cm) 18 := br_f (by decide) (br_f (by decide) (br_f (by decide) (br_f (by decide) (br_f (by decide) (br_f (by decide) (br_f (by decide) (br_f (by decide) (br_f (by decide) (br_f (by decide) (br_f (by decide) (br_f (by decide) (br_f (by decide) (br_f (by decide) (br_f (by decide) (br_f (by decide) (br_t rfl (h)))))))))))))))))
theorem sx_ad18 {post : Int32 → Prop} (h : post 0) : wpX_addsNumber post (xT, tr, ep, ind, vc, pc, xD, xE, cur, tu, ca, c, a, nm, nv, ps, pst, psk, jm, cp, stk, em, ce, rp, ct, cm) 18 := br_f (by decide) (br_f (by decide) (br_f (by decide) (br_f (by decide) (br_f (by decide) (h)))))
theorem sx_nt19 {post : Int32 → Prop} (h : post 0) : wpX_numbersTaken post (xT, tr, ep, ind, vc, pc, xD, xE, cur, tu, ca, c, a, nm, nv, ps, pst, psk, jm, cp, stk, em, ce, rp, ct, cm) 19 := br_f (by decide) (br_f (by decide) (br_f (by decide) (br_f (by decide) (br_f (by decide) (br_f (by decide) (br_f (by decide) (br_f (by decide) (br_f (by decide) (br_f (by decide) (br_f (by decide) (br_f (by decide) (br_f (by decide) (br_f (by decide) (br_f (by decide) (br_f (by decide) (br_f (by decide) (br_f (by decide) (br_f (by decide) (br_f (by decide) (br_t rfl (h)))))))))))))))))))))
theorem sy_tk19 {post : Int32 → Prop} (h : post 0) : wpY_takes post 19 := br_f (by decide) (br_f (by decide) (br_f (by decide) (br_f (by decide) (br_f (by decide) (br_f (by decide) (br_f (by decide) (br_f (by decide) (br_f (by decide) (br_f (by decide) (br_f (by decide) (br_f (by decide) (br_f (by decide) (br_f (by decide) (br_f (by decide) (br_f (by decide) (h))))))))))))))))
theorem sx_ns19 {post : Int32 → Prop} (h : post 0) : wpX_namedStop post (xT, tr, ep, ind, vc, pc, xD, xE, cur, tu, ca, c, a, nm, nv, ps, pst, psk, jm, cp, stk, em, ce, rp, ct, cm) 19 := br_f (by decide) (br_f (by decide) (br_f (by decide) (br_f (by decide) (br_f (by decide) (br_f (by decide) (br_f (by decide) (br_f (by decide) (br_f (by decide) (br_f (by decide) (br_f (by decide) (br_f (by decide) (br_f (by decide) (br_f (by decide) (br_f (by decide) (br_f (by decide) (br_f (by decide) (br_t rfl (h))))))))))))))))))
theorem sx_ad19 {post : Int32 → Prop} (h : post 0) : wpX_addsNumber post (xT, tr, ep, ind, vc, pc, xD, xE, cur, tu, ca, c, a, nm, nv, ps, pst, psk, jm, cp, stk, em, ce, rp, ct, cm) 19 := br_f (by decide) (br_f (by decide) (br_f (by decide) (br_f (by decide) (br_f (by decide) (h)))))
theorem sx_nt20 {post : Int32 → Prop} (h : post 1) : wpX_numbersTaken post (xT, tr, ep, ind, vc, pc, xD, xE, cur, tu, ca, c, a, nm, nv, ps, pst, psk, jm, cp, stk, em, ce, rp, ct, cm) 20 := br_f (by decide) (br_f (by decide) (br_f (by decide) (br_f (by decide) (br_f (by decide) (br_f (by decide) (br_f (by decide) (br_f (by decide) (br_f (by decide) (br_f (by decide) (br_f (by decide) (br_f (by decide) (br_f (by decide) (br_f (by decide) (br_f (by decide) (br_f (by decide) (br_f (by decide) (br_f (by decide) (br_f (by decide) (br_f (by decide) (br_f (by decide) (br_t rfl (h))))))))))))))))))))))
theorem sy_tk20 {post : Int32 → Prop} (h : post 1) : wpY_takes post 20 := br_f (by decide) (br_f (by decide) (br_f (by decide) (br_f (by decide) (br_f (by decide) (br_f (by decide) (br_f (by decide) (br_f (by decide) (br_f (by decide) (br_f (by decide) (br_f (by decide) (br_f (by decide) (br_f (by decide) (br_t rfl (h))))))))))))))
theorem sx_ad20 {post : Int32 → Prop} (h : post 0) : wpX_addsNumber post (xT, tr, ep, ind, vc, pc, xD, xE, cur, tu, ca, c, a, nm, nv, ps, pst, psk, jm, cp, stk, em, ce, rp, ct, cm) 20 := br_f (by decide) (br_f (by decide) (br_f (by decide) (br_f (by decide) (br_f (by decide) (h)))))
theorem sx_nt21 {post : Int32 → Prop} (h : post 1) : wpX_numbersTaken post (xT, tr, ep, ind, vc, pc, xD, xE, cur, tu, ca, c, a, nm, nv, ps, pst, psk, jm, cp, stk, em, ce, rp, ct, cm) 21 := br_f (by decide) (br_f (by decide) (br_f (by decide) (br_f (by decide) (br_f (by decide) (br_f (by decide) (br_f (by decide) (br_f (by decide) (br_f (by decide) (br_f (by decide) (br_f (by decide) (br_f (by decide) (br_f (by decide) (br_f (by decide) (br_f (by decide) (br_f (by decide) (br_f (by decide) (br_f (by decide) (br_f (by decide) (br_f (by decide) (br_f (by decide) (br_f (by decide) (br_t rfl (h)))))))))))))))))))))))
theorem sy_tk21 {post : Int32 → Prop} (h : post 1) : wpY_takes post 21 := br_f (by decide) (br_f (by decide) (br_f (by decide) (br_f (by decide) (br_f (by decide) (br_f (by decide) (br_f (by decide) (br_f (by decide) (br_f (by decide) (br_f (by decide) (br_f (by decide) (br_f (by decide) (br_f (by decide) (br_f (by decide) (br_t rfl (h)))))))))))))))
theorem sx_ns21 {post : Int32 → Prop} (h : post 0) : wpX_namedStop post (xT, tr, ep, ind, vc, pc, xD, xE, cur, tu, ca, c, a, nm, nv, ps, pst, psk, jm, cp, stk, em, ce, rp, ct, cm) 21 := br_f (by decide) (br_f (by decide) (br_f (by decide) (br_f (by decide) (br_f (by decide) (br_f (by decide) (br_f (by decide) (br_f (by decide) (br_f (by decide) (br_f (by decide) (br_f (by decide) (br_f (by decide) (br_f (by decide) (br_f (by decide) (br_f (by decide) (br_f (by decide) (br_f (by decide) (br_f (by decide) (br_f (by decide) (br_t rfl (h))))))))))))))))))))
theorem sx_ad21 {post : Int32 → Prop} (h : post 0) : wpX_addsNumber post (xT, tr, ep, ind, vc, pc, xD, xE, cur, tu, ca, c, a, nm, nv, ps, pst, psk, jm, cp, stk, em, ce, rp, ct, cm) 21 := br_f (by decide) (br_f (by decide) (br_f (by decide) (br_f (by decide) (br_f (by decide) (h)))))
theorem sx_nt22 {post : Int32 → Prop} (h : post 0) : wpX_numbersTaken post (xT, tr, ep, ind, vc, pc, xD, xE, cur, tu, ca, c, a, nm, nv, ps, pst, psk, jm, cp, stk, em, ce, rp, ct, cm) 22 := br_f (by decide) (br_f (by decide) (br_f (by decide) (br_f (by decide) (br_f (by decide) (br_f (by decide) (br_f (by decide) (br_f (by decide) (br_f (by decide) (br_f (by decide) (br_f (by decide) (br_f (by decide) (br_f (by decide) (br_f (by decide) (br_f (by decide) (br_f (by decide) (br_f (by decide) (br_f (by decide) (br_f (by decide) (br_f (by decide) (br_f (by decide) (br_f (by decide) (br_f (by decide) (br_t rfl (h))))))))))))))))))))))))
theorem sy_tk22 {post : Int32 → Prop} (h : post 0) : wpY_takes post 22 := br_f (by decide) (br_f (by decide) (br_f (by decide) (br_f (by decide) (br_f (by decide) (br_f (by decide) (br_f (by decide) (br_f (by decide) (br_f (by decide) (br_f (by decide) (br_f (by decide) (br_f (by decide) (br_f (by decide) (br_f (by decide) (br_f (by decide) (br_f (by decide) (h))))))))))))))))
theorem sx_ad22 {post : Int32 → Prop} (h : post 0) : wpX_addsNumber post (xT, tr, ep, ind, vc, pc, xD, xE, cur, tu, ca, c, a, nm, nv, ps, pst, psk, jm, cp, stk, em, ce, rp, ct, cm) 22 := br_f (by decide) (br_f (by decide) (br_f (by decide) (br_f (by decide) (br_f (by decide) (h)))))
theorem sx_nt23 {post : Int32 → Prop} (h : post 1) : wpX_numbersTaken post (xT, tr, ep, ind, vc, pc, xD, xE, cur, tu, ca, c, a, nm, nv, ps, pst, psk, jm, cp, stk, em, ce, rp, ct, cm) 23 := br_f (by decide) (br_f (by decide) (br_f (by decide) (br_f (by decide) (br_f (by decide) (br_f (by decide) (br_f (by decide) (br_f (by decide) (br_f (by decide) (br_f (by decide) (br_f (by decide) (br_f (by decide) (br_f (by decide) (br_f (by decide) (br_f (by decide) (br_f (by decide) (br_f (by decide) (br_f (by decide) (br_f (by decide) (br_f (by decide) (br_f (by decide) (br_f (by decide) (br_f (by decide) (br_f (by decide) (br_t rfl (h)))))))))))))))))))))))))
theorem sy_tk23 {post : Int32 → Prop} (h : post 1) : wpY_takes post 23 := br_f (by decide) (br_f (by decide) (br_f (by decide) (br_f (by decide) (br_f (by decide) (br_f (by decide) (br_f (by decide) (br_f (by decide) (br_f (by decide) (br_f (by decide) (br_f (by decide) (br_f (by decide) (br_f (by decide) (br_f (by decide) (br_f (by decide) (br_t rfl (h))))))))))))))))
theorem sx_ns23 {post : Int32 → Prop} (h : post 0) : wpX_namedStop post (xT, tr, ep, ind, vc, pc, xD, xE, cur, tu, ca, c, a, nm, nv, ps, pst, psk, jm, cp, stk, em, ce, rp, ct, cm) 23 := br_f (by decide) (br_f (by decide) (br_f (by decide) (br_f (by decide) (br_f (by decide) (br_f (by decide) (br_f (by decide) (br_f (by decide) (br_f (by decide) (br_f (by decide) (br_f (by decide) (br_f (by decide) (br_f (by decide) (br_f (by decide) (br_f (by decide) (br_f (by decide) (br_f (by decide) (br_f (by decide) (br_f (by decide) (br_f (by decide) (br_f (by decide) (br_t rfl (h))))))))))))))))))))))
theorem sx_ad23 {post : Int32 → Prop} (h : post 0) : wpX_addsNumber post (xT, tr, ep, ind, vc, pc, xD, xE, cur, tu, ca, c, a, nm, nv, ps, pst, psk, jm, cp, stk, em, ce, rp, ct, cm) 23 := br_f (by decide) (br_f (by decide) (br_f (by decide) (br_f (by decide) (br_f (by decide) (h)))))
theorem sx_nt24 {post : Int32 → Prop} (h : post 0) : wpX_numbersTaken post (xT, tr, ep, ind, vc, pc, xD, xE, cur, tu, ca, c, a, nm, nv, ps, pst, psk, jm, cp, stk, em, ce, rp, ct, cm) 24 := br_f (by decide) (br_t (by decide) (h))
theorem sy_tk24 {post : Int32 → Prop} (h : post 0) : wpY_takes post 24 := br_f (by decide) (br_f (by decide) (br_f (by decide) (br_f (by decide) (br_f (by decide) (br_f (by decide) (br_f (by decide) (br_f (by decide) (br_f (by decide) (br_f (by decide) (br_f (by decide) (br_f (by decide) (br_f (by decide) (br_f (by decide) (br_f (by decide) (br_f (by decide) (h))))))))))))))))
theorem sx_ad24 {post : Int32 → Prop} (h : post 0) : wpX_addsNumber post (xT, tr, ep, ind, vc, pc, xD, xE, cur, tu, ca, c, a, nm, nv, ps, pst, psk, jm, cp, stk, em, ce, rp, ct, cm) 24 := br_f (by decide) (br_f (by decide) (br_f (by decide) (br_f (by decide) (br_f (by decide) (h)))))
theorem sx_nt25 {post : Int32 → Prop} (h : post 0) : wpX_numbersTaken post (xT, tr, ep, ind, vc, pc, xD, xE, cur, tu, ca, c, a, nm, nv, ps, pst, psk, jm, cp, stk, em, ce, rp, ct, cm) 25 := br_f (by decide) (br_t (by decide) (h))
theorem sy_tk25 {post : Int32 → Prop} (h : post 0) : wpY_takes post 25 := br_f (by decide) (br_f (by decide) (br_f (by decide) (br_f (by decide) (br_f (by decide) (br_f (by decide) (br_f (by decide) (br_f (by decide) (br_f (by decide) (br_f (by decide) (br_f (by decide) (br_f (by decide) (br_f (by decide) (br_f (by decide) (br_f (by decide) (br_f (by decide) (h))))))))))))))))
theorem sx_ns25 {post : Int32 → Prop} (h : post 0) : wpX_namedStop post (xT, tr, ep, ind, vc, pc, xD, xE, cur, tu, ca, c, a, nm, nv, ps, pst, psk, jm, cp, stk, em, ce, rp, ct, cm) 25 := br_f (by decide) (br_t (by decide) (h))
theorem sx_ad25 {post : Int32 → Prop} (h : post 1) : wpX_addsNumber post (xT, tr, ep, ind, vc, pc, xD, xE, cur, tu, ca, c, a, nm, nv, ps, pst, psk, jm, cp, stk, em, ce, rp, ct, cm) 25 := br_f (by decide) (br_f (by decide) (br_f (by decide) (br_f (by decide) (br_t rfl (h)))))
theorem sx_nt27 {post : Int32 → Prop} (h : post 0) : wpX_numbersTaken post (xT, tr, ep, ind, vc, pc, xD, xE, cur, tu, ca, c, a, nm, nv, ps, pst, psk, jm, cp, stk, em, ce, rp, ct, cm) 27 := br_f (by decide) (br_t (by decide) (h))
theorem sy_tk27 {post : Int32 → Prop} (h : post 0) : wpY_takes post 27 := br_f (by decide) (br_f (by decide) (br_f (by decide) (br_f (by decide) (br_f (by decide) (br_f (by decide) (br_f (by decide) (br_f (by decide) (br_f (by decide) (br_f (by decide) (br_f (by decide) (br_f (by decide) (br_f (by decide) (br_f (by decide) (br_f (by decide) (br_f (by decide) (h))))))))))))))))
theorem sx_ns27 {post : Int32 → Prop} (h : post 0) : wpX_namedStop post (xT, tr, ep, ind, vc, pc, xD, xE, cur, tu, ca, c, a, nm, nv, ps, pst, psk, jm, cp, stk, em, ce, rp, ct, cm) 27 := br_f (by decide) (br_t (by decide) (h))
theorem sx_ad27 {post : Int32 → Prop} (h : post 0) : wpX_addsNumber post (xT, tr, ep, ind, vc, pc, xD, xE, cur, tu, ca, c, a, nm, nv, ps, pst, psk, jm, cp, stk, em, ce, rp, ct, cm) 27 := br_f (by decide) (br_f (by decide) (br_f (by decide) (br_f (by decide) (br_f (by decide) (h)))))
theorem sx_ns4 {post : Int32 → Prop} {r : Int32} (hD : D < 16) (hz : (stk D = 0 ∧ r = 13) ∨ (¬ stk D = 0 ∧ r = 0)) (h : post r) : wpX_namedStop post (xT, tr, ep, ind, vc, pc, nI (D + 1), xE, cur, tu, ca, c, a, nm, nv, ps, pst, psk, jm, cp, stk, em, ce, rp, ct, cm) 4 := by
  refine br_f (by decide) (br_f (by decide) (br_t rfl (?_)))
  rw [nI_pred, nI_clamp (n := D) (by omega)]
  refine ⟨vp_in_nI hD (by decide), ?_⟩
  rcases hz with ⟨h1, h2⟩ | ⟨h1, h2⟩
  · rw [h2] at h; exact br_t h1 h
  · rw [h2] at h; exact br_f h1 h
theorem sx_121 {post : Int32 → Prop} {r : Int32} {V : Nat} (hD : D < 16) (hV : V ≤ 12) (hz : ((stk D < 0 ∨ nI V ≤ stk D) ∧ r = 14) ∨ (¬ stk D < 0 ∧ ¬ nI V ≤ stk D ∧ r = 0)) (h : post r) : wX_namedStop_121 post xT tr ep ind (nI V) pc (nI (D + 1)) xE cur tu ca c a nm nv ps pst psk jm cp stk em ce rp ct cm := by
  unfold wX_namedStop_121
  rw [nI_pred, nI_clamp (n := D) (by omega)]
  refine ⟨vp_in_nI hD (by decide), ?_⟩
  rcases hz with ⟨h1, h2⟩ | ⟨h0, h1, h2⟩
  · rw [h2] at h
    by_cases h0 : stk D < 0
    · exact br_t h0 (br_t rfl h)
    · exact br_f h0 (br_t (h1.resolve_left h0) (br_t rfl h))
  · rw [h2] at h
    exact br_f h0 (br_f h1 (br_f (by decide) h))
theorem sx_ns12 {post : Int32 → Prop} (h : wX_namedStop_121 post xT tr ep ind vc pc xD xE cur tu ca c a nm nv ps pst psk jm cp stk em ce rp ct cm) : wpX_namedStop post (xT, tr, ep, ind, vc, pc, xD, xE, cur, tu, ca, c, a, nm, nv, ps, pst, psk, jm, cp, stk, em, ce, rp, ct, cm) 12 := br_f (by decide) (br_f (by decide) (br_f (by decide) (br_f (by decide) (br_f (by decide) (br_f (by decide) (br_f (by decide) (br_f (by decide) (br_f (by decide) (br_f (by decide) (br_t rfl (h)))))))))))
theorem sx_ns13 {post : Int32 → Prop} (h : wX_namedStop_121 post xT tr ep ind vc pc xD xE cur tu ca c a nm nv ps pst psk jm cp stk em ce rp ct cm) : wpX_namedStop post (xT, tr, ep, ind, vc, pc, xD, xE, cur, tu, ca, c, a, nm, nv, ps, pst, psk, jm, cp, stk, em, ce, rp, ct, cm) 13 := br_f (by decide) (br_f (by decide) (br_f (by decide) (br_f (by decide) (br_f (by decide) (br_f (by decide) (br_f (by decide) (br_f (by decide) (br_f (by decide) (br_f (by decide) (br_f (by decide) (br_t rfl (h))))))))))))
theorem sx_ns14 {post : Int32 → Prop} {r : Int32} (hE : E ≤ 16) (hz : (E = 16 ∧ r = 15) ∨ (¬ E = 16 ∧ r = 0)) (h : post r) : wpX_namedStop post (xT, tr, ep, ind, vc, pc, xD, nI E, cur, tu, ca, c, a, nm, nv, ps, pst, psk, jm, cp, stk, em, ce, rp, ct, cm) 14 := by
  refine br_f (by decide) (br_f (by decide) (br_f (by decide) (br_f (by decide) (br_f (by decide) (br_f (by decide) (br_f (by decide) (br_f (by decide) (br_f (by decide) (br_f (by decide) (br_f (by decide) (br_f (by decide) (br_t rfl (?_)))))))))))))
  rcases hz with ⟨h1, h2⟩ | ⟨h1, h2⟩
  · subst h1; rw [h2] at h; exact br_t rfl h
  · rw [h2] at h; exact br_f (fun y => h1 ((nI_eq (b := 16) (by omega) (by omega)).mp y)) h
theorem sx_ts {post : Int32 → Prop} {r : Int32} (ht : t ≤ 200) (hz : (t = 200 ∧ r = 16) ∨ (¬ t = 200 ∧ r = 0)) (h : post r) : wpX_turnStop post (xT, tr, ep, ind, vc, pc, xD, xE, cur, nI t, ca, c, a, nm, nv, ps, pst, psk, jm, cp, stk, em, ce, rp, ct, cm) := by
  rcases hz with ⟨h1, h2⟩ | ⟨h1, h2⟩
  · subst h1; rw [h2] at h; exact br_t rfl h
  · rw [h2] at h; exact br_f (fun y => h1 ((nI_eq (b := 200) (by omega) (by omega)).mp y)) h
theorem sx_ns20 {post : Int32 → Prop} {r : Int32} (hD : D < 16) (ht : t ≤ 200) (hz : (stk D = 0 ∧ t = 200 ∧ r = 16) ∨ (stk D = 0 ∧ ¬ t = 200 ∧ r = 0) ∨ (¬ stk D = 0 ∧ r = 0)) (h : post r) : wpX_namedStop post (xT, tr, ep, ind, vc, pc, nI (D + 1), xE, cur, nI t, ca, c, a, nm, nv, ps, pst, psk, jm, cp, stk, em, ce, rp, ct, cm) 20 := by
  refine br_f (by decide) (br_f (by decide) (br_f (by decide) (br_f (by decide) (br_f (by decide) (br_f (by decide) (br_f (by decide) (br_f (by decide) (br_f (by decide) (br_f (by decide) (br_f (by decide) (br_f (by decide) (br_f (by decide) (br_f (by decide) (br_f (by decide) (br_f (by decide) (br_f (by decide) (br_f (by decide) (br_t rfl (?_)))))))))))))))))))
  rw [nI_pred, nI_clamp (n := D) (by omega)]
  refine ⟨vp_in_nI hD (by decide), ?_⟩
  rcases hz with ⟨h1, h2⟩ | ⟨h1, h2⟩ | ⟨h1, h2⟩
  · refine br_t h1 ?_
    exact sx_ts ht (Or.inl h2) h
  · refine br_t h1 ?_
    exact sx_ts ht (Or.inr h2) h
  · rw [h2] at h; exact br_f h1 h
theorem sx_ns22 {post : Int32 → Prop} {r : Int32} (ht : t ≤ 200) (hz : (t = 200 ∧ r = 16) ∨ (¬ t = 200 ∧ r = 0)) (h : post r) : wpX_namedStop post (xT, tr, ep, ind, vc, pc, xD, xE, cur, nI t, ca, c, a, nm, nv, ps, pst, psk, jm, cp, stk, em, ce, rp, ct, cm) 22 := by
  refine br_f (by decide) (br_f (by decide) (br_f (by decide) (br_f (by decide) (br_f (by decide) (br_f (by decide) (br_f (by decide) (br_f (by decide) (br_f (by decide) (br_f (by decide) (br_f (by decide) (br_f (by decide) (br_f (by decide) (br_f (by decide) (br_f (by decide) (br_f (by decide) (br_f (by decide) (br_f (by decide) (br_f (by decide) (br_f (by decide) (br_t rfl (?_)))))))))))))))))))))
  unfold wX_namedStop_190
  exact sx_ts ht hz h
theorem sx_ns24 {post : Int32 → Prop} {r : Int32} (ht : t ≤ 200) (hz : (t = 200 ∧ r = 16) ∨ (¬ t = 200 ∧ r = 0)) (h : post r) : wpX_namedStop post (xT, tr, ep, ind, vc, pc, xD, xE, cur, nI t, ca, c, a, nm, nv, ps, pst, psk, jm, cp, stk, em, ce, rp, ct, cm) 24 := by
  refine br_f (by decide) (br_f (by decide) (br_f (by decide) (br_f (by decide) (br_f (by decide) (br_f (by decide) (br_f (by decide) (br_f (by decide) (br_f (by decide) (br_f (by decide) (br_f (by decide) (br_f (by decide) (br_f (by decide) (br_f (by decide) (br_f (by decide) (br_f (by decide) (br_f (by decide) (br_f (by decide) (br_f (by decide) (br_f (by decide) (br_f (by decide) (br_f (by decide) (br_t rfl (?_)))))))))))))))))))))))
  unfold wX_namedStop_190
  exact sx_ts ht hz h
theorem sx_csV {post : Int32 → Prop} {n : Nat} (hp : p < 80) (hn : n < 12) (ha : a p = nI n) (e : nm n = 2) (h : post 0) : wpX_callStop post (xT, tr, ep, ind, vc, pc, xD, xE, nI p, tu, ca, c, a, nm, nv, ps, pst, psk, jm, cp, stk, em, ce, rp, ct, cm) := by
  refine ⟨vp_in_nI (n := p) hp (by decide), ?_⟩
  rw [nI_clamp (n := p) (by omega), ha, nI_clamp (n := n) (by omega)]
  exact ⟨vp_in_nI (n := n) hn (by decide), br_t e h⟩
theorem sx_csW {post : Int32 → Prop} {n : Nat} {r : Int32} (hp : p < 80) (hn : n < 12) (ht : t ≤ 200) (hl : l ≤ 7) (ha : a p = nI n) (e : ¬ nm n = 2) (hz : (t = 200 ∧ r = 16) ∨ (¬ t = 200 ∧ l = 7 ∧ r = 17) ∨ (¬ t = 200 ∧ ¬ l = 7 ∧ r = 0)) (h : post r) : wpX_callStop post (xT, tr, ep, ind, vc, pc, xD, xE, nI p, nI t, nI (l + 1), c, a, nm, nv, ps, pst, psk, jm, cp, stk, em, ce, rp, ct, cm) := by
  refine ⟨vp_in_nI (n := p) hp (by decide), ?_⟩
  rw [nI_clamp (n := p) (by omega), ha, nI_clamp (n := n) (by omega)]
  refine ⟨vp_in_nI (n := n) hn (by decide), br_f e ?_⟩
  rcases hz with ⟨h1, h2⟩ | ⟨h1, h2, h3⟩ | ⟨h1, h2, h3⟩
  · refine sx_ts ht (r := 16) (Or.inl ⟨h1, rfl⟩) ?_
    rw [h2] at h; exact br_f (by decide) h
  · refine sx_ts ht (r := 0) (Or.inr ⟨h1, rfl⟩) ?_
    subst h2
    rw [h3] at h; exact br_t rfl (br_t rfl h)
  · refine sx_ts ht (r := 0) (Or.inr ⟨h1, rfl⟩) ?_
    rw [h3] at h; exact br_t rfl (br_f (fun y => h2 (by have := (nI_eq (a := l + 1) (b := 8) (by omega) (by omega)).mp y; omega)) h)
theorem sx_ns15 {post : Int32 → Prop} (h : wpX_callStop post (xT, tr, ep, ind, vc, pc, xD, xE, cur, tu, ca, c, a, nm, nv, ps, pst, psk, jm, cp, stk, em, ce, rp, ct, cm)) : wpX_namedStop post (xT, tr, ep, ind, vc, pc, xD, xE, cur, tu, ca, c, a, nm, nv, ps, pst, psk, jm, cp, stk, em, ce, rp, ct, cm) 15 := br_f (by decide) (br_f (by decide) (br_f (by decide) (br_f (by decide) (br_f (by decide) (br_f (by decide) (br_f (by decide) (br_f (by decide) (br_f (by decide) (br_f (by decide) (br_f (by decide) (br_f (by decide) (br_f (by decide) (br_t rfl (h))))))))))))))
theorem sx_ad15V {post : Int32 → Prop} {n : Nat} (hp : p < 80) (hn : n < 12) (ha : a p = nI n) (e : nm n = 2) (h : post 1) : wpX_addsNumber post (xT, tr, ep, ind, vc, pc, xD, xE, nI p, tu, ca, c, a, nm, nv, ps, pst, psk, jm, cp, stk, em, ce, rp, ct, cm) 15 := by
  refine br_f (by decide) (br_f (by decide) (br_f (by decide) (br_t rfl (?_))))
  rw [nI_clamp (n := p) (by omega), ha, nI_clamp (n := n) (by omega)]
  exact ⟨vp_in_nI (n := p) hp (by decide), vp_in_nI (n := n) hn (by decide), br_t e h⟩
theorem sx_ad15W {post : Int32 → Prop} {n : Nat} (hp : p < 80) (hn : n < 12) (ha : a p = nI n) (e : ¬ nm n = 2) (h : post 0) : wpX_addsNumber post (xT, tr, ep, ind, vc, pc, xD, xE, nI p, tu, ca, c, a, nm, nv, ps, pst, psk, jm, cp, stk, em, ce, rp, ct, cm) 15 := by
  refine br_f (by decide) (br_f (by decide) (br_f (by decide) (br_t rfl (?_))))
  rw [nI_clamp (n := p) (by omega), ha, nI_clamp (n := n) (by omega)]
  exact ⟨vp_in_nI (n := p) hp (by decide), vp_in_nI (n := n) hn (by decide), br_f e h⟩

theorem sx_whU {post : Int32 → Prop} {x : Int32} {k : Nat} (hp : p < 80) (hD : D ≤ 16) (hk3 : k ≤ 3) (e : c p = x) (nt : ∀ post : Int32 → Prop, post (nI k) → wpX_numbersTaken post (xT, tr, ep, ind, nI (sk_vs c T), pc, nI D, nI E, nI p, nI t, nI (l + 1), c, a, nm, nv, ps, pst, psk, jm, cp, stk, em, ce, rp, ct, cm) x) (hk : D < k) (h : post 11) : wpX_whyStop post (xT, tr, ep, ind, nI (sk_vs c T), pc, nI D, nI E, nI p, nI t, nI (l + 1), c, a, nm, nv, ps, pst, psk, jm, cp, stk, em, ce, rp, ct, cm) := by
  refine ⟨vp_in_nI (n := p) hp (by decide), ?_⟩
  rw [nI_clamp (n := p) (by omega), e]
  refine nm_e ?_
  refine nt _ ?_
  exact br_f (nI_ge hk (by omega)) h
theorem sx_wh {post : Int32 → Prop} {x r : Int32} {k : Nat} (hp : p < 80) (hD : D ≤ 16) (hk3 : k ≤ 3) (e : c p = x) (nt : ∀ post : Int32 → Prop, post (nI k) → wpX_numbersTaken post (xT, tr, ep, ind, nI (sk_vs c T), pc, nI D, nI E, nI p, nI t, nI (l + 1), c, a, nm, nv, ps, pst, psk, jm, cp, stk, em, ce, rp, ct, cm) x) (hk : k ≤ D) (ns : ∀ post : Int32 → Prop, post r → wpX_namedStop post (xT, tr, ep, ind, nI (sk_vs c T), pc, nI D, nI E, nI p, nI t, nI (l + 1), c, a, nm, nv, ps, pst, psk, jm, cp, stk, em, ce, rp, ct, cm) x)
    (h : (¬ r = 0 ∧ post r) ∨ (r = 0 ∧ ((D = 16 → wpX_addsNumber (fun r => ((r = 0 → post 0) ∧ (¬ r = 0 → post 12))) (xT, tr, ep, ind, nI (sk_vs c T), pc, nI D, nI E, nI p, nI t, nI (l + 1), c, a, nm, nv, ps, pst, psk, jm, cp, stk, em, ce, rp, ct, cm) x) ∧ (¬ D = 16 → post 0)))) : wpX_whyStop post (xT, tr, ep, ind, nI (sk_vs c T), pc, nI D, nI E, nI p, nI t, nI (l + 1), c, a, nm, nv, ps, pst, psk, jm, cp, stk, em, ce, rp, ct, cm) := by
  refine ⟨vp_in_nI (n := p) hp (by decide), ?_⟩
  rw [nI_clamp (n := p) (by omega), e]
  refine nm_e ?_
  refine nt _ ?_
  refine br_t (nI_le hk (by omega)) ?_
  refine ns _ ?_
  rcases h with ⟨h1, h2⟩ | ⟨h1, h2⟩
  · exact br_f h1 h2
  · refine br_t h1 ?_
    by_cases h16 : D = 16
    · have h3 := h2.1 h16
      subst h16
      exact br_t rfl h3
    · exact br_f (fun y => h16 ((nI_eq (b := 16) (by omega) (by omega)).mp y)) (h2.2 h16)
theorem sy_obU {post : Int32 → Prop} {x : Int32} {k : Nat} (hp : p < 80) (hD : D ≤ 16) (hk3 : k ≤ 3) (e : c p = x) (tk : ∀ post : Int32 → Prop, post (nI k) → wpY_takes post x) (hk : D < k) (h : post 11) : wpY_obstacle post (nI T, tr, ep, nI D, nI E, nI l, nI t, c, a, stk, em, ce, po, yc, ye) (nI p) := by
  refine ⟨vp_in_nI (n := p) hp (by decide), ?_⟩
  rw [nI_clamp (n := p) (by omega), e]
  refine nm_e ?_
  refine tk _ ?_
  exact br_f (nI_ge hk (by omega)) h
theorem sy_ob {post : Int32 → Prop} {x w : Int32} {k : Nat} (hp : p < 80) (hD : D ≤ 16) (hk3 : k ≤ 3) (e : c p = x) (tk : ∀ post : Int32 → Prop, post (nI k) → wpY_takes post x) (hk : k ≤ D) (cw : ∀ post : Int32 → Prop, post w → wpY_callsWord post (nI T, tr, ep, nI D, nI E, nI l, nI t, c, a, stk, em, ce, po, yc, ye) (nI p))
    (h : ∀ z : Int32, (0 < D → z = stk (D - 1)) → ((x = 4 → (((z = 0 → (post 13)) ∧ (¬ z = 0 → (wY_obstacle_46 post x z w (nI T) tr ep (nI D) (nI E) (nI l) (nI t) c a stk em ce po yc ye))))) ∧ (¬ x = 4 → (wY_obstacle_46 post x z w (nI T) tr ep (nI D) (nI E) (nI l) (nI t) c a stk em ce po yc ye)))) : wpY_obstacle post (nI T, tr, ep, nI D, nI E, nI l, nI t, c, a, stk, em, ce, po, yc, ye) (nI p) := by
  refine ⟨vp_in_nI (n := p) hp (by decide), ?_⟩
  rw [nI_clamp (n := p) (by omega), e]
  refine nm_e ?_
  refine tk _ ?_
  refine br_t (nI_le hk (by omega)) ?_
  refine sy_topz (j := 0) (by omega) hD ?_
  intro z hz
  refine cw _ ?_
  exact h z hz
theorem sy_95n {post : Int32 → Prop} {x z : Int32} (h20 : ¬ x = 20) (h22 : ¬ x = 22) (h24 : ¬ x = 24) (h : wY_obstacle_135 post x 0 yT tr ep yD yE lv yt c a stk em ce po yc ye) : wY_obstacle_95 post x z 0 yT tr ep yD yE lv yt c a stk em ce po yc ye := by
  by_cases ht : yt = 200
  · exact br_t ht (br_t rfl (br_f h20 (br_f h22 (br_f h24 h))))
  · exact br_f ht h
theorem sy_58 {post : Int32 → Prop} {x z w : Int32} (h80 : T ≤ 80) (h : (¬ z < 0 ∧ ¬ nI (sk_vs c T) ≤ z ∧ wY_obstacle_77 post x z w (nI T) tr ep yD yE lv yt c a stk em ce po yc ye) ∨ ((z < 0 ∨ nI (sk_vs c T) ≤ z) ∧ post 14)) : wY_obstacle_58 post x z w (nI T) tr ep yD yE lv yt c a stk em ce po yc ye := by
  unfold wY_obstacle_58
  by_cases h0 : z < 0
  · rcases h with h | h
    · exact absurd h0 h.1
    · exact br_t h0 h.2
  · refine br_f h0 ?_
    refine sy_vars h80 ?_
    rcases h with ⟨_, h1, h2⟩ | ⟨h1, h2⟩
    · exact br_t (Int32.not_le.mp h1) h2
    · exact br_f (Int32.not_lt.mpr (h1.resolve_left h0)) h2

theorem sw_0 (h80 : T ≤ 80) (hp : p < T) (hD : D ≤ 16) (hE : E ≤ 16) (ht : t ≤ 200) (hl : l ≤ 7) (hV : sk_vs c T ≤ 12) (hc : c p = 0) : ∃ e : Int32, (∀ post : Int32 → Prop, post e → wpX_whyStop post (xT, tr, ep, ind, nI (sk_vs c T), pc, nI D, nI E, nI p, nI t, nI (l + 1), c, a, nm, nv, ps, pst, psk, jm, cp, stk, em, ce, rp, ct, cm)) ∧ (∀ post : Int32 → Prop, post e → wpY_obstacle post (nI T, tr, ep, nI D, nI E, nI l, nI t, c, a, stk, em, ce, po, yc, ye) (nI p)) ∧ (e = 0 → 0 ≤ D ∧ D < 16) := by
  have cw : ∀ post : Int32 → Prop, post 0 → wpY_callsWord post (nI T, tr, ep, nI D, nI E, nI l, nI t, c, a, stk, em, ce, po, yc, ye) (nI p) := fun post h => sy_cwN (by omega) (by rw [hc]; decide) h
  by_cases h16 : D = 16
  · refine ⟨12, ?_, ?_, ?_⟩
    · intro post hpost
      exact sx_wh (r := 0) (k := 0) (by omega) hD (by omega) hc (fun _ h => sx_nt0 h) (by omega) (fun _ h => sx_ns0 h) (Or.inr ⟨rfl, (fun _ => sx_ad0 (br_f (by decide) hpost)), fun y => absurd h16 y⟩)
    · intro post hpost
      exact sy_ob (w := 0) (k := 0) (by omega) hD (by omega) hc (fun _ h => sy_tk0 h) (by omega) cw (fun z hz => br_f (by decide) (br_f (by decide) (br_f (by decide) (br_f (by decide) (sy_95n (by decide) (by decide) (by decide) (br_t rfl (br_t rfl (br_f (by decide) (br_t (by rw [h16]; rfl) hpost)))))))))
    · exact fun y => absurd y (by decide)
  · refine ⟨0, ?_, ?_, ?_⟩
    · intro post hpost
      exact sx_wh (r := 0) (k := 0) (by omega) hD (by omega) hc (fun _ h => sx_nt0 h) (by omega) (fun _ h => sx_ns0 h) (Or.inr ⟨rfl, (fun y => absurd y (by omega)), fun _ => hpost⟩)
    · intro post hpost
      exact sy_ob (w := 0) (k := 0) (by omega) hD (by omega) hc (fun _ h => sy_tk0 h) (by omega) cw (fun z hz => br_f (by decide) (br_f (by decide) (br_f (by decide) (br_f (by decide) (sy_95n (by decide) (by decide) (by decide) (br_t rfl (br_t rfl (br_f (by decide) (br_f (fun y => h16 ((nI_eq (b := 16) (by omega) (by omega)).mp y)) hpost)))))))))
    · exact fun _ => ⟨by omega, by omega⟩
theorem sw_1 (h80 : T ≤ 80) (hp : p < T) (hD : D ≤ 16) (hE : E ≤ 16) (ht : t ≤ 200) (hl : l ≤ 7) (hV : sk_vs c T ≤ 12) (hc : c p = 1) : ∃ e : Int32, (∀ post : Int32 → Prop, post e → wpX_whyStop post (xT, tr, ep, ind, nI (sk_vs c T), pc, nI D, nI E, nI p, nI t, nI (l + 1), c, a, nm, nv, ps, pst, psk, jm, cp, stk, em, ce, rp, ct, cm)) ∧ (∀ post : Int32 → Prop, post e → wpY_obstacle post (nI T, tr, ep, nI D, nI E, nI l, nI t, c, a, stk, em, ce, po, yc, ye) (nI p)) ∧ (e = 0 → 2 ≤ D ∧ True) := by
  have cw : ∀ post : Int32 → Prop, post 0 → wpY_callsWord post (nI T, tr, ep, nI D, nI E, nI l, nI t, c, a, stk, em, ce, po, yc, ye) (nI p) := fun post h => sy_cwN (by omega) (by rw [hc]; decide) h
  by_cases hu : D < 2
  · refine ⟨11, ?_, ?_, ?_⟩
    · intro post hpost
      exact sx_whU (k := 2) (by omega) hD (by omega) hc (fun _ h => sx_nt1 h) hu hpost
    · intro post hpost
      exact sy_obU (k := 2) (by omega) hD (by omega) hc (fun _ h => sy_tk1 h) hu hpost
    · exact fun y => absurd y (by decide)
  · skip
    · refine ⟨0, ?_, ?_, ?_⟩
      · intro post hpost
        exact sx_wh (r := 0) (k := 2) (by omega) hD (by omega) hc (fun _ h => sx_nt1 h) (by omega) (fun _ h => sx_ns1 h) (Or.inr ⟨rfl, (fun _ => sx_ad1 (br_t rfl hpost)), fun _ => hpost⟩)
      · intro post hpost
        exact sy_ob (w := 0) (k := 2) (by omega) hD (by omega) hc (fun _ h => sy_tk1 h) (by omega) cw (fun z hz => br_f (by decide) (br_f (by decide) (br_f (by decide) (br_f (by decide) (sy_95n (by decide) (by decide) (by decide) (br_t rfl (br_f (by decide) (br_f (by decide) (br_f (by decide) (br_f (by decide) (br_f (by decide) (br_t rfl hpost))))))))))))
      · exact fun _ => ⟨by omega, trivial⟩
theorem sw_2 (h80 : T ≤ 80) (hp : p < T) (hD : D ≤ 16) (hE : E ≤ 16) (ht : t ≤ 200) (hl : l ≤ 7) (hV : sk_vs c T ≤ 12) (hc : c p = 2) : ∃ e : Int32, (∀ post : Int32 → Prop, post e → wpX_whyStop post (xT, tr, ep, ind, nI (sk_vs c T), pc, nI D, nI E, nI p, nI t, nI (l + 1), c, a, nm, nv, ps, pst, psk, jm, cp, stk, em, ce, rp, ct, cm)) ∧ (∀ post : Int32 → Prop, post e → wpY_obstacle post (nI T, tr, ep, nI D, nI E, nI l, nI t, c, a, stk, em, ce, po, yc, ye) (nI p)) ∧ (e = 0 → 2 ≤ D ∧ True) := by
  have cw : ∀ post : Int32 → Prop, post 0 → wpY_callsWord post (nI T, tr, ep, nI D, nI E, nI l, nI t, c, a, stk, em, ce, po, yc, ye) (nI p) := fun post h => sy_cwN (by omega) (by rw [hc]; decide) h
  by_cases hu : D < 2
  · refine ⟨11, ?_, ?_, ?_⟩
    · intro post hpost
      exact sx_whU (k := 2) (by omega) hD (by omega) hc (fun _ h => sx_nt2 h) hu hpost
    · intro post hpost
      exact sy_obU (k := 2) (by omega) hD (by omega) hc (fun _ h => sy_tk2 h) hu hpost
    · exact fun y => absurd y (by decide)
  · skip
    · refine ⟨0, ?_, ?_, ?_⟩
      · intro post hpost
        exact sx_wh (r := 0) (k := 2) (by omega) hD (by omega) hc (fun _ h => sx_nt2 h) (by omega) (fun _ h => sx_ns2 h) (Or.inr ⟨rfl, (fun _ => sx_ad2 (br_t rfl hpost)), fun _ => hpost⟩)
      · intro post hpost
        exact sy_ob (w := 0) (k := 2) (by omega) hD (by omega) hc (fun _ h => sy_tk2 h) (by omega) cw (fun z hz => br_f (by decide) (br_f (by decide) (br_f (by decide) (br_f (by decide) (sy_95n (by decide) (by decide) (by decide) (br_t rfl (br_f (by decide) (br_f (by decide) (br_f (by decide) (br_f (by decide) (br_f (by decide) (br_t rfl hpost))))))))))))
      · exact fun _ => ⟨by omega, trivial⟩
theorem sw_3 (h80 : T ≤ 80) (hp : p < T) (hD : D ≤ 16) (hE : E ≤ 16) (ht : t ≤ 200) (hl : l ≤ 7) (hV : sk_vs c T ≤ 12) (hc : c p = 3) : ∃ e : Int32, (∀ post : Int32 → Prop, post e → wpX_whyStop post (xT, tr, ep, ind, nI (sk_vs c T), pc, nI D, nI E, nI p, nI t, nI (l + 1), c, a, nm, nv, ps, pst, psk, jm, cp, stk, em, ce, rp, ct, cm)) ∧ (∀ post : Int32 → Prop, post e → wpY_obstacle post (nI T, tr, ep, nI D, nI E, nI l, nI t, c, a, stk, em, ce, po, yc, ye) (nI p)) ∧ (e = 0 → 2 ≤ D ∧ True) := by
  have cw : ∀ post : Int32 → Prop, post 0 → wpY_callsWord post (nI T, tr, ep, nI D, nI E, nI l, nI t, c, a, stk, em, ce, po, yc, ye) (nI p) := fun post h => sy_cwN (by omega) (by rw [hc]; decide) h
  by_cases hu : D < 2
  · refine ⟨11, ?_, ?_, ?_⟩
    · intro post hpost
      exact sx_whU (k := 2) (by omega) hD (by omega) hc (fun _ h => sx_nt3 h) hu hpost
    · intro post hpost
      exact sy_obU (k := 2) (by omega) hD (by omega) hc (fun _ h => sy_tk3 h) hu hpost
    · exact fun y => absurd y (by decide)
  · skip
    · refine ⟨0, ?_, ?_, ?_⟩
      · intro post hpost
        exact sx_wh (r := 0) (k := 2) (by omega) hD (by omega) hc (fun _ h => sx_nt3 h) (by omega) (fun _ h => sx_ns3 h) (Or.inr ⟨rfl, (fun _ => sx_ad3 (br_t rfl hpost)), fun _ => hpost⟩)
      · intro post hpost
        exact sy_ob (w := 0) (k := 2) (by omega) hD (by omega) hc (fun _ h => sy_tk3 h) (by omega) cw (fun z hz => br_f (by decide) (br_f (by decide) (br_f (by decide) (br_f (by decide) (sy_95n (by decide) (by decide) (by decide) (br_t rfl (br_f (by decide) (br_f (by decide) (br_f (by decide) (br_f (by decide) (br_f (by decide) (br_t rfl hpost))))))))))))
      · exact fun _ => ⟨by omega, trivial⟩
theorem sw_4 (h80 : T ≤ 80) (hp : p < T) (hD : D ≤ 16) (hE : E ≤ 16) (ht : t ≤ 200) (hl : l ≤ 7) (hV : sk_vs c T ≤ 12) (hc : c p = 4) : ∃ e : Int32, (∀ post : Int32 → Prop, post e → wpX_whyStop post (xT, tr, ep, ind, nI (sk_vs c T), pc, nI D, nI E, nI p, nI t, nI (l + 1), c, a, nm, nv, ps, pst, psk, jm, cp, stk, em, ce, rp, ct, cm)) ∧ (∀ post : Int32 → Prop, post e → wpY_obstacle post (nI T, tr, ep, nI D, nI E, nI l, nI t, c, a, stk, em, ce, po, yc, ye) (nI p)) ∧ (e = 0 → 2 ≤ D ∧ stk (D - 1) ≠ 0) := by
  have cw : ∀ post : Int32 → Prop, post 0 → wpY_callsWord post (nI T, tr, ep, nI D, nI E, nI l, nI t, c, a, stk, em, ce, po, yc, ye) (nI p) := fun post h => sy_cwN (by omega) (by rw [hc]; decide) h
  by_cases hu : D < 2
  · refine ⟨11, ?_, ?_, ?_⟩
    · intro post hpost
      exact sx_whU (k := 2) (by omega) hD (by omega) hc (fun _ h => sx_nt4 h) hu hpost
    · intro post hpost
      exact sy_obU (k := 2) (by omega) hD (by omega) hc (fun _ h => sy_tk4 h) hu hpost
    · exact fun y => absurd y (by decide)
  · obtain ⟨d, rfl⟩ : ∃ d, D = d + 1 := ⟨D - 1, by omega⟩
    have hzz : ∀ {z : Int32}, (0 < d + 1 → z = stk (d + 1 - 1)) → z = stk d := fun h => h (by omega)
    by_cases hz0 : stk d = 0
    · refine ⟨13, ?_, ?_, ?_⟩
      · intro post hpost
        exact sx_wh (r := 13) (k := 2) (by omega) hD (by omega) hc (fun _ h => sx_nt4 h) (by omega) (fun _ h => sx_ns4 (by omega) (Or.inl ⟨hz0, rfl⟩) h) (Or.inl ⟨by decide, hpost⟩)
      · intro post hpost
        exact sy_ob (w := 0) (k := 2) (by omega) hD (by omega) hc (fun _ h => sy_tk4 h) (by omega) cw (fun z hz => br_t rfl (br_t ((hzz hz).trans hz0) hpost))
      · exact fun y => absurd y (by decide)
    · refine ⟨0, ?_, ?_, ?_⟩
      · intro post hpost
        exact sx_wh (r := 0) (k := 2) (by omega) hD (by omega) hc (fun _ h => sx_nt4 h) (by omega) (fun _ h => sx_ns4 (by omega) (Or.inr ⟨hz0, rfl⟩) h) (Or.inr ⟨rfl, (fun _ => sx_ad4 (br_t rfl hpost)), fun _ => hpost⟩)
      · intro post hpost
        exact sy_ob (w := 0) (k := 2) (by omega) hD (by omega) hc (fun _ h => sy_tk4 h) (by omega) cw (fun z hz => br_t rfl (br_f (fun y => hz0 ((hzz hz).symm.trans y)) (br_f (by decide) (br_f (by decide) (br_f (by decide) (sy_95n (by decide) (by decide) (by decide) (br_t rfl (br_f (by decide) (br_f (by decide) (br_f (by decide) (br_f (by decide) (br_f (by decide) (br_t rfl hpost)))))))))))))
      · exact fun _ => ⟨by omega, hz0⟩
theorem sw_5 (h80 : T ≤ 80) (hp : p < T) (hD : D ≤ 16) (hE : E ≤ 16) (ht : t ≤ 200) (hl : l ≤ 7) (hV : sk_vs c T ≤ 12) (hc : c p = 5) : ∃ e : Int32, (∀ post : Int32 → Prop, post e → wpX_whyStop post (xT, tr, ep, ind, nI (sk_vs c T), pc, nI D, nI E, nI p, nI t, nI (l + 1), c, a, nm, nv, ps, pst, psk, jm, cp, stk, em, ce, rp, ct, cm)) ∧ (∀ post : Int32 → Prop, post e → wpY_obstacle post (nI T, tr, ep, nI D, nI E, nI l, nI t, c, a, stk, em, ce, po, yc, ye) (nI p)) ∧ (e = 0 → 1 ≤ D ∧ D < 16) := by
  have cw : ∀ post : Int32 → Prop, post 0 → wpY_callsWord post (nI T, tr, ep, nI D, nI E, nI l, nI t, c, a, stk, em, ce, po, yc, ye) (nI p) := fun post h => sy_cwN (by omega) (by rw [hc]; decide) h
  by_cases hu : D < 1
  · refine ⟨11, ?_, ?_, ?_⟩
    · intro post hpost
      exact sx_whU (k := 1) (by omega) hD (by omega) hc (fun _ h => sx_nt5 h) hu hpost
    · intro post hpost
      exact sy_obU (k := 1) (by omega) hD (by omega) hc (fun _ h => sy_tk5 h) hu hpost
    · exact fun y => absurd y (by decide)
  · obtain ⟨d, rfl⟩ : ∃ d, D = d + 1 := ⟨D - 1, by omega⟩
    have hzz : ∀ {z : Int32}, (0 < d + 1 → z = stk (d + 1 - 1)) → z = stk d := fun h => h (by omega)
    by_cases h16 : d + 1 = 16
    · refine ⟨12, ?_, ?_, ?_⟩
      · intro post hpost
        exact sx_wh (r := 0) (k := 1) (by omega) hD (by omega) hc (fun _ h => sx_nt5 h) (by omega) (fun _ h => sx_ns5 h) (Or.inr ⟨rfl, (fun _ => sx_ad5 (br_f (by decide) hpost)), fun y => absurd h16 y⟩)
      · intro post hpost
        exact sy_ob (w := 0) (k := 1) (by omega) hD (by omega) hc (fun _ h => sy_tk5 h) (by omega) cw (fun z hz => br_f (by decide) (br_f (by decide) (br_f (by decide) (br_f (by decide) (sy_95n (by decide) (by decide) (by decide) (br_t rfl (br_f (by decide) (br_t rfl (br_f (by decide) (br_t (by rw [h16]; rfl) hpost))))))))))
      · exact fun y => absurd y (by decide)
    · refine ⟨0, ?_, ?_, ?_⟩
      · intro post hpost
        exact sx_wh (r := 0) (k := 1) (by omega) hD (by omega) hc (fun _ h => sx_nt5 h) (by omega) (fun _ h => sx_ns5 h) (Or.inr ⟨rfl, (fun y => absurd y (by omega)), fun _ => hpost⟩)
      · intro post hpost
        exact sy_ob (w := 0) (k := 1) (by omega) hD (by omega) hc (fun _ h => sy_tk5 h) (by omega) cw (fun z hz => br_f (by decide) (br_f (by decide) (br_f (by decide) (br_f (by decide) (sy_95n (by decide) (by decide) (by decide) (br_t rfl (br_f (by decide) (br_t rfl (br_f (by decide) (br_f (fun y => h16 ((nI_eq (b := 16) (by omega) (by omega)).mp y)) hpost))))))))))
      · exact fun _ => ⟨by omega, by omega⟩
theorem sw_6 (h80 : T ≤ 80) (hp : p < T) (hD : D ≤ 16) (hE : E ≤ 16) (ht : t ≤ 200) (hl : l ≤ 7) (hV : sk_vs c T ≤ 12) (hc : c p = 6) : ∃ e : Int32, (∀ post : Int32 → Prop, post e → wpX_whyStop post (xT, tr, ep, ind, nI (sk_vs c T), pc, nI D, nI E, nI p, nI t, nI (l + 1), c, a, nm, nv, ps, pst, psk, jm, cp, stk, em, ce, rp, ct, cm)) ∧ (∀ post : Int32 → Prop, post e → wpY_obstacle post (nI T, tr, ep, nI D, nI E, nI l, nI t, c, a, stk, em, ce, po, yc, ye) (nI p)) ∧ (e = 0 → 1 ≤ D ∧ True) := by
  have cw : ∀ post : Int32 → Prop, post 0 → wpY_callsWord post (nI T, tr, ep, nI D, nI E, nI l, nI t, c, a, stk, em, ce, po, yc, ye) (nI p) := fun post h => sy_cwN (by omega) (by rw [hc]; decide) h
  by_cases hu : D < 1
  · refine ⟨11, ?_, ?_, ?_⟩
    · intro post hpost
      exact sx_whU (k := 1) (by omega) hD (by omega) hc (fun _ h => sx_nt6 h) hu hpost
    · intro post hpost
      exact sy_obU (k := 1) (by omega) hD (by omega) hc (fun _ h => sy_tk6 h) hu hpost
    · exact fun y => absurd y (by decide)
  · obtain ⟨d, rfl⟩ : ∃ d, D = d + 1 := ⟨D - 1, by omega⟩
    have hzz : ∀ {z : Int32}, (0 < d + 1 → z = stk (d + 1 - 1)) → z = stk d := fun h => h (by omega)
    · refine ⟨0, ?_, ?_, ?_⟩
      · intro post hpost
        exact sx_wh (r := 0) (k := 1) (by omega) hD (by omega) hc (fun _ h => sx_nt6 h) (by omega) (fun _ h => sx_ns6 h) (Or.inr ⟨rfl, (fun _ => sx_ad6 (br_t rfl hpost)), fun _ => hpost⟩)
      · intro post hpost
        exact sy_ob (w := 0) (k := 1) (by omega) hD (by omega) hc (fun _ h => sy_tk6 h) (by omega) cw (fun z hz => br_f (by decide) (br_f (by decide) (br_f (by decide) (br_f (by decide) (sy_95n (by decide) (by decide) (by decide) (br_t rfl (br_f (by decide) (br_f (by decide) (br_f (by decide) (br_f (by decide) (br_f (by decide) (br_t rfl hpost))))))))))))
      · exact fun _ => ⟨by omega, trivial⟩
theorem sw_7 (h80 : T ≤ 80) (hp : p < T) (hD : D ≤ 16) (hE : E ≤ 16) (ht : t ≤ 200) (hl : l ≤ 7) (hV : sk_vs c T ≤ 12) (hc : c p = 7) : ∃ e : Int32, (∀ post : Int32 → Prop, post e → wpX_whyStop post (xT, tr, ep, ind, nI (sk_vs c T), pc, nI D, nI E, nI p, nI t, nI (l + 1), c, a, nm, nv, ps, pst, psk, jm, cp, stk, em, ce, rp, ct, cm)) ∧ (∀ post : Int32 → Prop, post e → wpY_obstacle post (nI T, tr, ep, nI D, nI E, nI l, nI t, c, a, stk, em, ce, po, yc, ye) (nI p)) ∧ (e = 0 → 2 ≤ D ∧ True) := by
  have cw : ∀ post : Int32 → Prop, post 0 → wpY_callsWord post (nI T, tr, ep, nI D, nI E, nI l, nI t, c, a, stk, em, ce, po, yc, ye) (nI p) := fun post h => sy_cwN (by omega) (by rw [hc]; decide) h
  by_cases hu : D < 2
  · refine ⟨11, ?_, ?_, ?_⟩
    · intro post hpost
      exact sx_whU (k := 2) (by omega) hD (by omega) hc (fun _ h => sx_nt7 h) hu hpost
    · intro post hpost
      exact sy_obU (k := 2) (by omega) hD (by omega) hc (fun _ h => sy_tk7 h) hu hpost
    · exact fun y => absurd y (by decide)
  · skip
    · refine ⟨0, ?_, ?_, ?_⟩
      · intro post hpost
        exact sx_wh (r := 0) (k := 2) (by omega) hD (by omega) hc (fun _ h => sx_nt7 h) (by omega) (fun _ h => sx_ns7 h) (Or.inr ⟨rfl, (fun _ => sx_ad7 (br_t rfl hpost)), fun _ => hpost⟩)
      · intro post hpost
        exact sy_ob (w := 0) (k := 2) (by omega) hD (by omega) hc (fun _ h => sy_tk7 h) (by omega) cw (fun z hz => br_f (by decide) (br_f (by decide) (br_f (by decide) (br_f (by decide) (sy_95n (by decide) (by decide) (by decide) (br_t rfl (br_f (by decide) (br_f (by decide) (br_f (by decide) (br_f (by decide) (br_f (by decide) (br_t rfl hpost))))))))))))
      · exact fun _ => ⟨by omega, trivial⟩
theorem sw_8 (h80 : T ≤ 80) (hp : p < T) (hD : D ≤ 16) (hE : E ≤ 16) (ht : t ≤ 200) (hl : l ≤ 7) (hV : sk_vs c T ≤ 12) (hc : c p = 8) : ∃ e : Int32, (∀ post : Int32 → Prop, post e → wpX_whyStop post (xT, tr, ep, ind, nI (sk_vs c T), pc, nI D, nI E, nI p, nI t, nI (l + 1), c, a, nm, nv, ps, pst, psk, jm, cp, stk, em, ce, rp, ct, cm)) ∧ (∀ post : Int32 → Prop, post e → wpY_obstacle post (nI T, tr, ep, nI D, nI E, nI l, nI t, c, a, stk, em, ce, po, yc, ye) (nI p)) ∧ (e = 0 → 2 ≤ D ∧ D < 16) := by
  have cw : ∀ post : Int32 → Prop, post 0 → wpY_callsWord post (nI T, tr, ep, nI D, nI E, nI l, nI t, c, a, stk, em, ce, po, yc, ye) (nI p) := fun post h => sy_cwN (by omega) (by rw [hc]; decide) h
  by_cases hu : D < 2
  · refine ⟨11, ?_, ?_, ?_⟩
    · intro post hpost
      exact sx_whU (k := 2) (by omega) hD (by omega) hc (fun _ h => sx_nt8 h) hu hpost
    · intro post hpost
      exact sy_obU (k := 2) (by omega) hD (by omega) hc (fun _ h => sy_tk8 h) hu hpost
    · exact fun y => absurd y (by decide)
  · skip
    by_cases h16 : D = 16
    · refine ⟨12, ?_, ?_, ?_⟩
      · intro post hpost
        exact sx_wh (r := 0) (k := 2) (by omega) hD (by omega) hc (fun _ h => sx_nt8 h) (by omega) (fun _ h => sx_ns8 h) (Or.inr ⟨rfl, (fun _ => sx_ad8 (br_f (by decide) hpost)), fun y => absurd h16 y⟩)
      · intro post hpost
        exact sy_ob (w := 0) (k := 2) (by omega) hD (by omega) hc (fun _ h => sy_tk8 h) (by omega) cw (fun z hz => br_f (by decide) (br_f (by decide) (br_f (by decide) (br_f (by decide) (sy_95n (by decide) (by decide) (by decide) (br_t rfl (br_f (by decide) (br_f (by decide) (br_t rfl (br_f (by decide) (br_t (by rw [h16]; rfl) hpost)))))))))))
      · exact fun y => absurd y (by decide)
    · refine ⟨0, ?_, ?_, ?_⟩
      · intro post hpost
        exact sx_wh (r := 0) (k := 2) (by omega) hD (by omega) hc (fun _ h => sx_nt8 h) (by omega) (fun _ h => sx_ns8 h) (Or.inr ⟨rfl, (fun y => absurd y (by omega)), fun _ => hpost⟩)
      · intro post hpost
        exact sy_ob (w := 0) (k := 2) (by omega) hD (by omega) hc (fun _ h => sy_tk8 h) (by omega) cw (fun z hz => br_f (by decide) (br_f (by decide) (br_f (by decide) (br_f (by decide) (sy_95n (by decide) (by decide) (by decide) (br_t rfl (br_f (by decide) (br_f (by decide) (br_t rfl (br_f (by decide) (br_f (fun y => h16 ((nI_eq (b := 16) (by omega) (by omega)).mp y)) hpost)))))))))))
      · exact fun _ => ⟨by omega, by omega⟩
theorem sw_9 (h80 : T ≤ 80) (hp : p < T) (hD : D ≤ 16) (hE : E ≤ 16) (ht : t ≤ 200) (hl : l ≤ 7) (hV : sk_vs c T ≤ 12) (hc : c p = 9) : ∃ e : Int32, (∀ post : Int32 → Prop, post e → wpX_whyStop post (xT, tr, ep, ind, nI (sk_vs c T), pc, nI D, nI E, nI p, nI t, nI (l + 1), c, a, nm, nv, ps, pst, psk, jm, cp, stk, em, ce, rp, ct, cm)) ∧ (∀ post : Int32 → Prop, post e → wpY_obstacle post (nI T, tr, ep, nI D, nI E, nI l, nI t, c, a, stk, em, ce, po, yc, ye) (nI p)) ∧ (e = 0 → 3 ≤ D ∧ True) := by
  have cw : ∀ post : Int32 → Prop, post 0 → wpY_callsWord post (nI T, tr, ep, nI D, nI E, nI l, nI t, c, a, stk, em, ce, po, yc, ye) (nI p) := fun post h => sy_cwN (by omega) (by rw [hc]; decide) h
  by_cases hu : D < 3
  · refine ⟨11, ?_, ?_, ?_⟩
    · intro post hpost
      exact sx_whU (k := 3) (by omega) hD (by omega) hc (fun _ h => sx_nt9 h) hu hpost
    · intro post hpost
      exact sy_obU (k := 3) (by omega) hD (by omega) hc (fun _ h => sy_tk9 h) hu hpost
    · exact fun y => absurd y (by decide)
  · skip
    · refine ⟨0, ?_, ?_, ?_⟩
      · intro post hpost
        exact sx_wh (r := 0) (k := 3) (by omega) hD (by omega) hc (fun _ h => sx_nt9 h) (by omega) (fun _ h => sx_ns9 h) (Or.inr ⟨rfl, (fun _ => sx_ad9 (br_t rfl hpost)), fun _ => hpost⟩)
      · intro post hpost
        exact sy_ob (w := 0) (k := 3) (by omega) hD (by omega) hc (fun _ h => sy_tk9 h) (by omega) cw (fun z hz => br_f (by decide) (br_f (by decide) (br_f (by decide) (br_f (by decide) (sy_95n (by decide) (by decide) (by decide) (br_t rfl (br_f (by decide) (br_f (by decide) (br_f (by decide) (br_f (by decide) (br_f (by decide) (br_t rfl hpost))))))))))))
      · exact fun _ => ⟨by omega, trivial⟩
theorem sw_10 (h80 : T ≤ 80) (hp : p < T) (hD : D ≤ 16) (hE : E ≤ 16) (ht : t ≤ 200) (hl : l ≤ 7) (hV : sk_vs c T ≤ 12) (hc : c p = 10) : ∃ e : Int32, (∀ post : Int32 → Prop, post e → wpX_whyStop post (xT, tr, ep, ind, nI (sk_vs c T), pc, nI D, nI E, nI p, nI t, nI (l + 1), c, a, nm, nv, ps, pst, psk, jm, cp, stk, em, ce, rp, ct, cm)) ∧ (∀ post : Int32 → Prop, post e → wpY_obstacle post (nI T, tr, ep, nI D, nI E, nI l, nI t, c, a, stk, em, ce, po, yc, ye) (nI p)) ∧ (e = 0 → 2 ≤ D ∧ True) := by
  have cw : ∀ post : Int32 → Prop, post 0 → wpY_callsWord post (nI T, tr, ep, nI D, nI E, nI l, nI t, c, a, stk, em, ce, po, yc, ye) (nI p) := fun post h => sy_cwN (by omega) (by rw [hc]; decide) h
  by_cases hu : D < 2
  · refine ⟨11, ?_, ?_, ?_⟩
    · intro post hpost
      exact sx_whU (k := 2) (by omega) hD (by omega) hc (fun _ h => sx_nt10 h) hu hpost
    · intro post hpost
      exact sy_obU (k := 2) (by omega) hD (by omega) hc (fun _ h => sy_tk10 h) hu hpost
    · exact fun y => absurd y (by decide)
  · skip
    · refine ⟨0, ?_, ?_, ?_⟩
      · intro post hpost
        exact sx_wh (r := 0) (k := 2) (by omega) hD (by omega) hc (fun _ h => sx_nt10 h) (by omega) (fun _ h => sx_ns10 h) (Or.inr ⟨rfl, (fun _ => sx_ad10 (br_t rfl hpost)), fun _ => hpost⟩)
      · intro post hpost
        exact sy_ob (w := 0) (k := 2) (by omega) hD (by omega) hc (fun _ h => sy_tk10 h) (by omega) cw (fun z hz => br_f (by decide) (br_f (by decide) (br_f (by decide) (br_f (by decide) (sy_95n (by decide) (by decide) (by decide) (br_t rfl (br_f (by decide) (br_f (by decide) (br_f (by decide) (br_f (by decide) (br_f (by decide) (br_t rfl hpost))))))))))))
      · exact fun _ => ⟨by omega, trivial⟩
theorem sw_11 (h80 : T ≤ 80) (hp : p < T) (hD : D ≤ 16) (hE : E ≤ 16) (ht : t ≤ 200) (hl : l ≤ 7) (hV : sk_vs c T ≤ 12) (hc : c p = 11) : ∃ e : Int32, (∀ post : Int32 → Prop, post e → wpX_whyStop post (xT, tr, ep, ind, nI (sk_vs c T), pc, nI D, nI E, nI p, nI t, nI (l + 1), c, a, nm, nv, ps, pst, psk, jm, cp, stk, em, ce, rp, ct, cm)) ∧ (∀ post : Int32 → Prop, post e → wpY_obstacle post (nI T, tr, ep, nI D, nI E, nI l, nI t, c, a, stk, em, ce, po, yc, ye) (nI p)) ∧ (e = 0 → 2 ≤ D ∧ True) := by
  have cw : ∀ post : Int32 → Prop, post 0 → wpY_callsWord post (nI T, tr, ep, nI D, nI E, nI l, nI t, c, a, stk, em, ce, po, yc, ye) (nI p) := fun post h => sy_cwN (by omega) (by rw [hc]; decide) h
  by_cases hu : D < 2
  · refine ⟨11, ?_, ?_, ?_⟩
    · intro post hpost
      exact sx_whU (k := 2) (by omega) hD (by omega) hc (fun _ h => sx_nt11 h) hu hpost
    · intro post hpost
      exact sy_obU (k := 2) (by omega) hD (by omega) hc (fun _ h => sy_tk11 h) hu hpost
    · exact fun y => absurd y (by decide)
  · skip
    · refine ⟨0, ?_, ?_, ?_⟩
      · intro post hpost
        exact sx_wh (r := 0) (k := 2) (by omega) hD (by omega) hc (fun _ h => sx_nt11 h) (by omega) (fun _ h => sx_ns11 h) (Or.inr ⟨rfl, (fun _ => sx_ad11 (br_t rfl hpost)), fun _ => hpost⟩)
      · intro post hpost
        exact sy_ob (w := 0) (k := 2) (by omega) hD (by omega) hc (fun _ h => sy_tk11 h) (by omega) cw (fun z hz => br_f (by decide) (br_f (by decide) (br_f (by decide) (br_f (by decide) (sy_95n (by decide) (by decide) (by decide) (br_t rfl (br_f (by decide) (br_f (by decide) (br_f (by decide) (br_f (by decide) (br_f (by decide) (br_t rfl hpost))))))))))))
      · exact fun _ => ⟨by omega, trivial⟩
theorem sw_12 (h80 : T ≤ 80) (hp : p < T) (hD : D ≤ 16) (hE : E ≤ 16) (ht : t ≤ 200) (hl : l ≤ 7) (hV : sk_vs c T ≤ 12) (hc : c p = 12) : ∃ e : Int32, (∀ post : Int32 → Prop, post e → wpX_whyStop post (xT, tr, ep, ind, nI (sk_vs c T), pc, nI D, nI E, nI p, nI t, nI (l + 1), c, a, nm, nv, ps, pst, psk, jm, cp, stk, em, ce, rp, ct, cm)) ∧ (∀ post : Int32 → Prop, post e → wpY_obstacle post (nI T, tr, ep, nI D, nI E, nI l, nI t, c, a, stk, em, ce, po, yc, ye) (nI p)) ∧ (e = 0 → 1 ≤ D ∧ ∃ n, n < sk_vs c T ∧ stk (D - 1) = nI n) := by
  have cw : ∀ post : Int32 → Prop, post 0 → wpY_callsWord post (nI T, tr, ep, nI D, nI E, nI l, nI t, c, a, stk, em, ce, po, yc, ye) (nI p) := fun post h => sy_cwN (by omega) (by rw [hc]; decide) h
  by_cases hu : D < 1
  · refine ⟨11, ?_, ?_, ?_⟩
    · intro post hpost
      exact sx_whU (k := 1) (by omega) hD (by omega) hc (fun _ h => sx_nt12 h) hu hpost
    · intro post hpost
      exact sy_obU (k := 1) (by omega) hD (by omega) hc (fun _ h => sy_tk12 h) hu hpost
    · exact fun y => absurd y (by decide)
  · obtain ⟨d, rfl⟩ : ∃ d, D = d + 1 := ⟨D - 1, by omega⟩
    have hzz : ∀ {z : Int32}, (0 < d + 1 → z = stk (d + 1 - 1)) → z = stk d := fun h => h (by omega)
    by_cases hz0 : stk d < 0 ∨ nI (sk_vs c T) ≤ stk d
    · refine ⟨14, ?_, ?_, ?_⟩
      · intro post hpost
        exact sx_wh (r := 14) (k := 1) (by omega) hD (by omega) hc (fun _ h => sx_nt12 h) (by omega) (fun _ h => sx_ns12 (sx_121 (by omega) hV (Or.inl ⟨hz0, rfl⟩) h)) (Or.inl ⟨by decide, hpost⟩)
      · intro post hpost
        exact sy_ob (w := 0) (k := 1) (by omega) hD (by omega) hc (fun _ h => sy_tk12 h) (by omega) cw (fun z hz => by
          have hz1 := hzz hz
          subst hz1
          exact br_f (by decide) (br_t rfl (sy_58 h80 (Or.inr ⟨hz0, hpost⟩))))
      · exact fun y => absurd y (by decide)
    · have n0 : ¬ stk d < 0 := fun y => hz0 (Or.inl y)
      have n1 : ¬ nI (sk_vs c T) ≤ stk d := fun y => hz0 (Or.inr y)
      obtain ⟨n, hn, en⟩ := nI_of n0
      have hn2 : n < sk_vs c T := by
        rw [en, nI_leI (by omega) hn] at n1
        omega
      · refine ⟨0, ?_, ?_, ?_⟩
        · intro post hpost
          exact sx_wh (r := 0) (k := 1) (by omega) hD (by omega) hc (fun _ h => sx_nt12 h) (by omega) (fun _ h => sx_ns12 (sx_121 (by omega) hV (Or.inr ⟨n0, n1, rfl⟩) h)) (Or.inr ⟨rfl, (fun _ => sx_ad12 (br_t rfl hpost)), fun _ => hpost⟩)
        · intro post hpost
          exact sy_ob (w := 0) (k := 1) (by omega) hD (by omega) hc (fun _ h => sy_tk12 h) (by omega) cw (fun z hz => by
            have hz1 := hzz hz
            subst hz1
            exact br_f (by decide) (br_t rfl (sy_58 h80 (Or.inl ⟨n0, n1, br_f (by decide) (sy_95n (by decide) (by decide) (by decide) (br_t rfl (br_f (by decide) (br_f (by decide) (br_f (by decide) (br_f (by decide) (br_f (by decide) (br_t rfl hpost))))))))⟩))))
        · exact fun _ => ⟨by omega, n, hn2, en⟩
theorem sw_13 (h80 : T ≤ 80) (hp : p < T) (hD : D ≤ 16) (hE : E ≤ 16) (ht : t ≤ 200) (hl : l ≤ 7) (hV : sk_vs c T ≤ 12) (hc : c p = 13) : ∃ e : Int32, (∀ post : Int32 → Prop, post e → wpX_whyStop post (xT, tr, ep, ind, nI (sk_vs c T), pc, nI D, nI E, nI p, nI t, nI (l + 1), c, a, nm, nv, ps, pst, psk, jm, cp, stk, em, ce, rp, ct, cm)) ∧ (∀ post : Int32 → Prop, post e → wpY_obstacle post (nI T, tr, ep, nI D, nI E, nI l, nI t, c, a, stk, em, ce, po, yc, ye) (nI p)) ∧ (e = 0 → 2 ≤ D ∧ ∃ n, n < sk_vs c T ∧ stk (D - 1) = nI n) := by
  have cw : ∀ post : Int32 → Prop, post 0 → wpY_callsWord post (nI T, tr, ep, nI D, nI E, nI l, nI t, c, a, stk, em, ce, po, yc, ye) (nI p) := fun post h => sy_cwN (by omega) (by rw [hc]; decide) h
  by_cases hu : D < 2
  · refine ⟨11, ?_, ?_, ?_⟩
    · intro post hpost
      exact sx_whU (k := 2) (by omega) hD (by omega) hc (fun _ h => sx_nt13 h) hu hpost
    · intro post hpost
      exact sy_obU (k := 2) (by omega) hD (by omega) hc (fun _ h => sy_tk13 h) hu hpost
    · exact fun y => absurd y (by decide)
  · obtain ⟨d, rfl⟩ : ∃ d, D = d + 1 := ⟨D - 1, by omega⟩
    have hzz : ∀ {z : Int32}, (0 < d + 1 → z = stk (d + 1 - 1)) → z = stk d := fun h => h (by omega)
    by_cases hz0 : stk d < 0 ∨ nI (sk_vs c T) ≤ stk d
    · refine ⟨14, ?_, ?_, ?_⟩
      · intro post hpost
        exact sx_wh (r := 14) (k := 2) (by omega) hD (by omega) hc (fun _ h => sx_nt13 h) (by omega) (fun _ h => sx_ns13 (sx_121 (by omega) hV (Or.inl ⟨hz0, rfl⟩) h)) (Or.inl ⟨by decide, hpost⟩)
      · intro post hpost
        exact sy_ob (w := 0) (k := 2) (by omega) hD (by omega) hc (fun _ h => sy_tk13 h) (by omega) cw (fun z hz => by
          have hz1 := hzz hz
          subst hz1
          exact br_f (by decide) (br_f (by decide) (br_t rfl (sy_58 h80 (Or.inr ⟨hz0, hpost⟩)))))
      · exact fun y => absurd y (by decide)
    · have n0 : ¬ stk d < 0 := fun y => hz0 (Or.inl y)
      have n1 : ¬ nI (sk_vs c T) ≤ stk d := fun y => hz0 (Or.inr y)
      obtain ⟨n, hn, en⟩ := nI_of n0
      have hn2 : n < sk_vs c T := by
        rw [en, nI_leI (by omega) hn] at n1
        omega
      · refine ⟨0, ?_, ?_, ?_⟩
        · intro post hpost
          exact sx_wh (r := 0) (k := 2) (by omega) hD (by omega) hc (fun _ h => sx_nt13 h) (by omega) (fun _ h => sx_ns13 (sx_121 (by omega) hV (Or.inr ⟨n0, n1, rfl⟩) h)) (Or.inr ⟨rfl, (fun _ => sx_ad13 (br_t rfl hpost)), fun _ => hpost⟩)
        · intro post hpost
          exact sy_ob (w := 0) (k := 2) (by omega) hD (by omega) hc (fun _ h => sy_tk13 h) (by omega) cw (fun z hz => by
            have hz1 := hzz hz
            subst hz1
            exact br_f (by decide) (br_f (by decide) (br_t rfl (sy_58 h80 (Or.inl ⟨n0, n1, br_f (by decide) (sy_95n (by decide) (by decide) (by decide) (br_t rfl (br_f (by decide) (br_f (by decide) (br_f (by decide) (br_f (by decide) (br_f (by decide) (br_t rfl hpost))))))))⟩)))))
        · exact fun _ => ⟨by omega, n, hn2, en⟩
theorem sw_14 (h80 : T ≤ 80) (hp : p < T) (hD : D ≤ 16) (hE : E ≤ 16) (ht : t ≤ 200) (hl : l ≤ 7) (hV : sk_vs c T ≤ 12) (hc : c p = 14) : ∃ e : Int32, (∀ post : Int32 → Prop, post e → wpX_whyStop post (xT, tr, ep, ind, nI (sk_vs c T), pc, nI D, nI E, nI p, nI t, nI (l + 1), c, a, nm, nv, ps, pst, psk, jm, cp, stk, em, ce, rp, ct, cm)) ∧ (∀ post : Int32 → Prop, post e → wpY_obstacle post (nI T, tr, ep, nI D, nI E, nI l, nI t, c, a, stk, em, ce, po, yc, ye) (nI p)) ∧ (e = 0 → 1 ≤ D ∧ E < 16) := by
  have cw : ∀ post : Int32 → Prop, post 0 → wpY_callsWord post (nI T, tr, ep, nI D, nI E, nI l, nI t, c, a, stk, em, ce, po, yc, ye) (nI p) := fun post h => sy_cwN (by omega) (by rw [hc]; decide) h
  by_cases hu : D < 1
  · refine ⟨11, ?_, ?_, ?_⟩
    · intro post hpost
      exact sx_whU (k := 1) (by omega) hD (by omega) hc (fun _ h => sx_nt14 h) hu hpost
    · intro post hpost
      exact sy_obU (k := 1) (by omega) hD (by omega) hc (fun _ h => sy_tk14 h) hu hpost
    · exact fun y => absurd y (by decide)
  · obtain ⟨d, rfl⟩ : ∃ d, D = d + 1 := ⟨D - 1, by omega⟩
    have hzz : ∀ {z : Int32}, (0 < d + 1 → z = stk (d + 1 - 1)) → z = stk d := fun h => h (by omega)
    by_cases hz0 : E = 16
    · refine ⟨15, ?_, ?_, ?_⟩
      · intro post hpost
        exact sx_wh (r := 15) (k := 1) (by omega) hD (by omega) hc (fun _ h => sx_nt14 h) (by omega) (fun _ h => sx_ns14 hE (Or.inl ⟨hz0, rfl⟩) h) (Or.inl ⟨by decide, hpost⟩)
      · intro post hpost
        exact sy_ob (w := 0) (k := 1) (by omega) hD (by omega) hc (fun _ h => sy_tk14 h) (by omega) cw (fun z hz => br_f (by decide) (br_f (by decide) (br_f (by decide) (br_t rfl (br_t (by rw [hz0]; rfl) hpost)))))
      · exact fun y => absurd y (by decide)
    · refine ⟨0, ?_, ?_, ?_⟩
      · intro post hpost
        exact sx_wh (r := 0) (k := 1) (by omega) hD (by omega) hc (fun _ h => sx_nt14 h) (by omega) (fun _ h => sx_ns14 hE (Or.inr ⟨hz0, rfl⟩) h) (Or.inr ⟨rfl, (fun _ => sx_ad14 (br_t rfl hpost)), fun _ => hpost⟩)
      · intro post hpost
        exact sy_ob (w := 0) (k := 1) (by omega) hD (by omega) hc (fun _ h => sy_tk14 h) (by omega) cw (fun z hz => br_f (by decide) (br_f (by decide) (br_f (by decide) (br_t rfl (br_f (fun y => hz0 ((nI_eq (b := 16) (by omega) (by omega)).mp y)) (sy_95n (by decide) (by decide) (by decide) (br_t rfl (br_f (by decide) (br_f (by decide) (br_f (by decide) (br_f (by decide) (br_f (by decide) (br_t rfl hpost)))))))))))))
      · exact fun _ => ⟨by omega, by omega⟩
theorem sw_16 (h80 : T ≤ 80) (hp : p < T) (hD : D ≤ 16) (hE : E ≤ 16) (ht : t ≤ 200) (hl : l ≤ 7) (hV : sk_vs c T ≤ 12) (hc : c p = 16) : ∃ e : Int32, (∀ post : Int32 → Prop, post e → wpX_whyStop post (xT, tr, ep, ind, nI (sk_vs c T), pc, nI D, nI E, nI p, nI t, nI (l + 1), c, a, nm, nv, ps, pst, psk, jm, cp, stk, em, ce, rp, ct, cm)) ∧ (∀ post : Int32 → Prop, post e → wpY_obstacle post (nI T, tr, ep, nI D, nI E, nI l, nI t, c, a, stk, em, ce, po, yc, ye) (nI p)) ∧ (e = 0 → 1 ≤ D ∧ True) := by
  have cw : ∀ post : Int32 → Prop, post 0 → wpY_callsWord post (nI T, tr, ep, nI D, nI E, nI l, nI t, c, a, stk, em, ce, po, yc, ye) (nI p) := fun post h => sy_cwN (by omega) (by rw [hc]; decide) h
  by_cases hu : D < 1
  · refine ⟨11, ?_, ?_, ?_⟩
    · intro post hpost
      exact sx_whU (k := 1) (by omega) hD (by omega) hc (fun _ h => sx_nt16 h) hu hpost
    · intro post hpost
      exact sy_obU (k := 1) (by omega) hD (by omega) hc (fun _ h => sy_tk16 h) hu hpost
    · exact fun y => absurd y (by decide)
  · obtain ⟨d, rfl⟩ : ∃ d, D = d + 1 := ⟨D - 1, by omega⟩
    have hzz : ∀ {z : Int32}, (0 < d + 1 → z = stk (d + 1 - 1)) → z = stk d := fun h => h (by omega)
    · refine ⟨0, ?_, ?_, ?_⟩
      · intro post hpost
        exact sx_wh (r := 0) (k := 1) (by omega) hD (by omega) hc (fun _ h => sx_nt16 h) (by omega) (fun _ h => sx_ns16 h) (Or.inr ⟨rfl, (fun _ => sx_ad16 (br_t rfl hpost)), fun _ => hpost⟩)
      · intro post hpost
        exact sy_ob (w := 0) (k := 1) (by omega) hD (by omega) hc (fun _ h => sy_tk16 h) (by omega) cw (fun z hz => br_f (by decide) (br_f (by decide) (br_f (by decide) (br_f (by decide) (sy_95n (by decide) (by decide) (by decide) (br_t rfl (br_f (by decide) (br_f (by decide) (br_f (by decide) (br_f (by decide) (br_f (by decide) (br_t rfl hpost))))))))))))
      · exact fun _ => ⟨by omega, trivial⟩
theorem sw_17 (h80 : T ≤ 80) (hp : p < T) (hD : D ≤ 16) (hE : E ≤ 16) (ht : t ≤ 200) (hl : l ≤ 7) (hV : sk_vs c T ≤ 12) (hc : c p = 17) : ∃ e : Int32, (∀ post : Int32 → Prop, post e → wpX_whyStop post (xT, tr, ep, ind, nI (sk_vs c T), pc, nI D, nI E, nI p, nI t, nI (l + 1), c, a, nm, nv, ps, pst, psk, jm, cp, stk, em, ce, rp, ct, cm)) ∧ (∀ post : Int32 → Prop, post e → wpY_obstacle post (nI T, tr, ep, nI D, nI E, nI l, nI t, c, a, stk, em, ce, po, yc, ye) (nI p)) ∧ (e = 0 → 0 ≤ D ∧ True) := by
  have cw : ∀ post : Int32 → Prop, post 0 → wpY_callsWord post (nI T, tr, ep, nI D, nI E, nI l, nI t, c, a, stk, em, ce, po, yc, ye) (nI p) := fun post h => sy_cwN (by omega) (by rw [hc]; decide) h
  · refine ⟨0, ?_, ?_, ?_⟩
    · intro post hpost
      exact sx_wh (r := 0) (k := 0) (by omega) hD (by omega) hc (fun _ h => sx_nt17 h) (by omega) (fun _ h => sx_ns17 h) (Or.inr ⟨rfl, (fun _ => sx_ad17 (br_t rfl hpost)), fun _ => hpost⟩)
    · intro post hpost
      exact sy_ob (w := 0) (k := 0) (by omega) hD (by omega) hc (fun _ h => sy_tk17 h) (by omega) cw (fun z hz => br_f (by decide) (br_f (by decide) (br_f (by decide) (br_f (by decide) (sy_95n (by decide) (by decide) (by decide) (br_t rfl (br_f (by decide) (br_f (by decide) (br_f (by decide) (br_f (by decide) (br_f (by decide) (br_t rfl hpost))))))))))))
    · exact fun _ => ⟨by omega, trivial⟩
theorem sw_18 (h80 : T ≤ 80) (hp : p < T) (hD : D ≤ 16) (hE : E ≤ 16) (ht : t ≤ 200) (hl : l ≤ 7) (hV : sk_vs c T ≤ 12) (hc : c p = 18) : ∃ e : Int32, (∀ post : Int32 → Prop, post e → wpX_whyStop post (xT, tr, ep, ind, nI (sk_vs c T), pc, nI D, nI E, nI p, nI t, nI (l + 1), c, a, nm, nv, ps, pst, psk, jm, cp, stk, em, ce, rp, ct, cm)) ∧ (∀ post : Int32 → Prop, post e → wpY_obstacle post (nI T, tr, ep, nI D, nI E, nI l, nI t, c, a, stk, em, ce, po, yc, ye) (nI p)) ∧ (e = 0 → 0 ≤ D ∧ True) := by
  have cw : ∀ post : Int32 → Prop, post 0 → wpY_callsWord post (nI T, tr, ep, nI D, nI E, nI l, nI t, c, a, stk, em, ce, po, yc, ye) (nI p) := fun post h => sy_cwN (by omega) (by rw [hc]; decide) h
  · refine ⟨0, ?_, ?_, ?_⟩
    · intro post hpost
      exact sx_wh (r := 0) (k := 0) (by omega) hD (by omega) hc (fun _ h => sx_nt18 h) (by omega) (fun _ h => sx_ns18 h) (Or.inr ⟨rfl, (fun _ => sx_ad18 (br_t rfl hpost)), fun _ => hpost⟩)
    · intro post hpost
      exact sy_ob (w := 0) (k := 0) (by omega) hD (by omega) hc (fun _ h => sy_tk18 h) (by omega) cw (fun z hz => br_f (by decide) (br_f (by decide) (br_f (by decide) (br_f (by decide) (sy_95n (by decide) (by decide) (by decide) (br_t rfl (br_f (by decide) (br_f (by decide) (br_f (by decide) (br_f (by decide) (br_f (by decide) (br_t rfl hpost))))))))))))
    · exact fun _ => ⟨by omega, trivial⟩
theorem sw_19 (h80 : T ≤ 80) (hp : p < T) (hD : D ≤ 16) (hE : E ≤ 16) (ht : t ≤ 200) (hl : l ≤ 7) (hV : sk_vs c T ≤ 12) (hc : c p = 19) : ∃ e : Int32, (∀ post : Int32 → Prop, post e → wpX_whyStop post (xT, tr, ep, ind, nI (sk_vs c T), pc, nI D, nI E, nI p, nI t, nI (l + 1), c, a, nm, nv, ps, pst, psk, jm, cp, stk, em, ce, rp, ct, cm)) ∧ (∀ post : Int32 → Prop, post e → wpY_obstacle post (nI T, tr, ep, nI D, nI E, nI l, nI t, c, a, stk, em, ce, po, yc, ye) (nI p)) ∧ (e = 0 → 0 ≤ D ∧ True) := by
  have cw : ∀ post : Int32 → Prop, post 0 → wpY_callsWord post (nI T, tr, ep, nI D, nI E, nI l, nI t, c, a, stk, em, ce, po, yc, ye) (nI p) := fun post h => sy_cwN (by omega) (by rw [hc]; decide) h
  · refine ⟨0, ?_, ?_, ?_⟩
    · intro post hpost
      exact sx_wh (r := 0) (k := 0) (by omega) hD (by omega) hc (fun _ h => sx_nt19 h) (by omega) (fun _ h => sx_ns19 h) (Or.inr ⟨rfl, (fun _ => sx_ad19 (br_t rfl hpost)), fun _ => hpost⟩)
    · intro post hpost
      exact sy_ob (w := 0) (k := 0) (by omega) hD (by omega) hc (fun _ h => sy_tk19 h) (by omega) cw (fun z hz => br_f (by decide) (br_f (by decide) (br_f (by decide) (br_f (by decide) (sy_95n (by decide) (by decide) (by decide) (br_t rfl (br_f (by decide) (br_f (by decide) (br_f (by decide) (br_f (by decide) (br_f (by decide) (br_t rfl hpost))))))))))))
    · exact fun _ => ⟨by omega, trivial⟩
theorem sw_20 (h80 : T ≤ 80) (hp : p < T) (hD : D ≤ 16) (hE : E ≤ 16) (ht : t ≤ 200) (hl : l ≤ 7) (hV : sk_vs c T ≤ 12) (hc : c p = 20) : ∃ e : Int32, (∀ post : Int32 → Prop, post e → wpX_whyStop post (xT, tr, ep, ind, nI (sk_vs c T), pc, nI D, nI E, nI p, nI t, nI (l + 1), c, a, nm, nv, ps, pst, psk, jm, cp, stk, em, ce, rp, ct, cm)) ∧ (∀ post : Int32 → Prop, post e → wpY_obstacle post (nI T, tr, ep, nI D, nI E, nI l, nI t, c, a, stk, em, ce, po, yc, ye) (nI p)) ∧ (e = 0 → 1 ≤ D ∧ (stk (D - 1) = 0 → t < 200)) := by
  have cw : ∀ post : Int32 → Prop, post 0 → wpY_callsWord post (nI T, tr, ep, nI D, nI E, nI l, nI t, c, a, stk, em, ce, po, yc, ye) (nI p) := fun post h => sy_cwN (by omega) (by rw [hc]; decide) h
  by_cases hu : D < 1
  · refine ⟨11, ?_, ?_, ?_⟩
    · intro post hpost
      exact sx_whU (k := 1) (by omega) hD (by omega) hc (fun _ h => sx_nt20 h) hu hpost
    · intro post hpost
      exact sy_obU (k := 1) (by omega) hD (by omega) hc (fun _ h => sy_tk20 h) hu hpost
    · exact fun y => absurd y (by decide)
  · obtain ⟨d, rfl⟩ : ∃ d, D = d + 1 := ⟨D - 1, by omega⟩
    have hzz : ∀ {z : Int32}, (0 < d + 1 → z = stk (d + 1 - 1)) → z = stk d := fun h => h (by omega)
    by_cases hz0 : stk d = 0
    · by_cases ht2 : t = 200
      · refine ⟨16, ?_, ?_, ?_⟩
        · intro post hpost
          exact sx_wh (r := 16) (k := 1) (by omega) hD (by omega) hc (fun _ h => sx_nt20 h) (by omega) (fun _ h => sx_ns20 (by omega) ht (Or.inl ⟨hz0, ht2, rfl⟩) h) (Or.inl ⟨by decide, hpost⟩)
        · intro post hpost
          exact sy_ob (w := 0) (k := 1) (by omega) hD (by omega) hc (fun _ h => sy_tk20 h) (by omega) cw (fun z hz => br_f (by decide) (br_f (by decide) (br_f (by decide) (br_f (by decide) (br_t (by rw [ht2]; rfl) (br_t rfl (br_t rfl (br_t ((hzz hz).trans hz0) hpost))))))))
        · exact fun y => absurd y (by decide)
      · refine ⟨0, ?_, ?_, ?_⟩
        · intro post hpost
          exact sx_wh (r := 0) (k := 1) (by omega) hD (by omega) hc (fun _ h => sx_nt20 h) (by omega) (fun _ h => sx_ns20 (by omega) ht (Or.inr (Or.inl ⟨hz0, ht2, rfl⟩)) h) (Or.inr ⟨rfl, (fun _ => sx_ad20 (br_t rfl hpost)), fun _ => hpost⟩)
        · intro post hpost
          exact sy_ob (w := 0) (k := 1) (by omega) hD (by omega) hc (fun _ h => sy_tk20 h) (by omega) cw (fun z hz => br_f (by decide) (br_f (by decide) (br_f (by decide) (br_f (by decide) (br_f (fun y => ht2 ((nI_eq (b := 200) (by omega) (by omega)).mp y)) (br_t rfl (br_f (by decide) (br_f (by decide) (br_f (by decide) (br_f (by decide) (br_f (by decide) (br_t rfl hpost))))))))))))
        · exact fun _ => ⟨by omega, fun _ => by omega⟩
    · by_cases ht2 : t = 200
      · refine ⟨0, ?_, ?_, ?_⟩
        · intro post hpost
          exact sx_wh (r := 0) (k := 1) (by omega) hD (by omega) hc (fun _ h => sx_nt20 h) (by omega) (fun _ h => sx_ns20 (by omega) ht (Or.inr (Or.inr ⟨hz0, rfl⟩)) h) (Or.inr ⟨rfl, (fun _ => sx_ad20 (br_t rfl hpost)), fun _ => hpost⟩)
        · intro post hpost
          exact sy_ob (w := 0) (k := 1) (by omega) hD (by omega) hc (fun _ h => sy_tk20 h) (by omega) cw (fun z hz => br_f (by decide) (br_f (by decide) (br_f (by decide) (br_f (by decide) (br_t (by rw [ht2]; rfl) (br_t rfl (br_t rfl (br_f (fun y => hz0 ((hzz hz).symm.trans y)) (br_f (by decide) (br_f (by decide) (br_t rfl (br_f (by decide) (br_f (by decide) (br_f (by decide) (br_f (by decide) (br_f (by decide) (br_t rfl hpost)))))))))))))))))
        · exact fun _ => ⟨by omega, fun y => absurd y hz0⟩
      · refine ⟨0, ?_, ?_, ?_⟩
        · intro post hpost
          exact sx_wh (r := 0) (k := 1) (by omega) hD (by omega) hc (fun _ h => sx_nt20 h) (by omega) (fun _ h => sx_ns20 (by omega) ht (Or.inr (Or.inr ⟨hz0, rfl⟩)) h) (Or.inr ⟨rfl, (fun _ => sx_ad20 (br_t rfl hpost)), fun _ => hpost⟩)
        · intro post hpost
          exact sy_ob (w := 0) (k := 1) (by omega) hD (by omega) hc (fun _ h => sy_tk20 h) (by omega) cw (fun z hz => br_f (by decide) (br_f (by decide) (br_f (by decide) (br_f (by decide) (br_f (fun y => ht2 ((nI_eq (b := 200) (by omega) (by omega)).mp y)) (br_t rfl (br_f (by decide) (br_f (by decide) (br_f (by decide) (br_f (by decide) (br_f (by decide) (br_t rfl hpost))))))))))))
        · exact fun _ => ⟨by omega, fun y => absurd y hz0⟩
theorem sw_21 (h80 : T ≤ 80) (hp : p < T) (hD : D ≤ 16) (hE : E ≤ 16) (ht : t ≤ 200) (hl : l ≤ 7) (hV : sk_vs c T ≤ 12) (hc : c p = 21) : ∃ e : Int32, (∀ post : Int32 → Prop, post e → wpX_whyStop post (xT, tr, ep, ind, nI (sk_vs c T), pc, nI D, nI E, nI p, nI t, nI (l + 1), c, a, nm, nv, ps, pst, psk, jm, cp, stk, em, ce, rp, ct, cm)) ∧ (∀ post : Int32 → Prop, post e → wpY_obstacle post (nI T, tr, ep, nI D, nI E, nI l, nI t, c, a, stk, em, ce, po, yc, ye) (nI p)) ∧ (e = 0 → 1 ≤ D ∧ True) := by
  have cw : ∀ post : Int32 → Prop, post 0 → wpY_callsWord post (nI T, tr, ep, nI D, nI E, nI l, nI t, c, a, stk, em, ce, po, yc, ye) (nI p) := fun post h => sy_cwN (by omega) (by rw [hc]; decide) h
  by_cases hu : D < 1
  · refine ⟨11, ?_, ?_, ?_⟩
    · intro post hpost
      exact sx_whU (k := 1) (by omega) hD (by omega) hc (fun _ h => sx_nt21 h) hu hpost
    · intro post hpost
      exact sy_obU (k := 1) (by omega) hD (by omega) hc (fun _ h => sy_tk21 h) hu hpost
    · exact fun y => absurd y (by decide)
  · obtain ⟨d, rfl⟩ : ∃ d, D = d + 1 := ⟨D - 1, by omega⟩
    have hzz : ∀ {z : Int32}, (0 < d + 1 → z = stk (d + 1 - 1)) → z = stk d := fun h => h (by omega)
    · refine ⟨0, ?_, ?_, ?_⟩
      · intro post hpost
        exact sx_wh (r := 0) (k := 1) (by omega) hD (by omega) hc (fun _ h => sx_nt21 h) (by omega) (fun _ h => sx_ns21 h) (Or.inr ⟨rfl, (fun _ => sx_ad21 (br_t rfl hpost)), fun _ => hpost⟩)
      · intro post hpost
        exact sy_ob (w := 0) (k := 1) (by omega) hD (by omega) hc (fun _ h => sy_tk21 h) (by omega) cw (fun z hz => br_f (by decide) (br_f (by decide) (br_f (by decide) (br_f (by decide) (sy_95n (by decide) (by decide) (by decide) (br_t rfl (br_f (by decide) (br_f (by decide) (br_f (by decide) (br_f (by decide) (br_f (by decide) (br_t rfl hpost))))))))))))
      · exact fun _ => ⟨by omega, trivial⟩
theorem sw_22 (h80 : T ≤ 80) (hp : p < T) (hD : D ≤ 16) (hE : E ≤ 16) (ht : t ≤ 200) (hl : l ≤ 7) (hV : sk_vs c T ≤ 12) (hc : c p = 22) : ∃ e : Int32, (∀ post : Int32 → Prop, post e → wpX_whyStop post (xT, tr, ep, ind, nI (sk_vs c T), pc, nI D, nI E, nI p, nI t, nI (l + 1), c, a, nm, nv, ps, pst, psk, jm, cp, stk, em, ce, rp, ct, cm)) ∧ (∀ post : Int32 → Prop, post e → wpY_obstacle post (nI T, tr, ep, nI D, nI E, nI l, nI t, c, a, stk, em, ce, po, yc, ye) (nI p)) ∧ (e = 0 → 0 ≤ D ∧ t < 200) := by
  have cw : ∀ post : Int32 → Prop, post 0 → wpY_callsWord post (nI T, tr, ep, nI D, nI E, nI l, nI t, c, a, stk, em, ce, po, yc, ye) (nI p) := fun post h => sy_cwN (by omega) (by rw [hc]; decide) h
  by_cases ht2 : t = 200
  · refine ⟨16, ?_, ?_, ?_⟩
    · intro post hpost
      exact sx_wh (r := 16) (k := 0) (by omega) hD (by omega) hc (fun _ h => sx_nt22 h) (by omega) (fun _ h => sx_ns22 ht (Or.inl ⟨ht2, rfl⟩) h) (Or.inl ⟨by decide, hpost⟩)
    · intro post hpost
      exact sy_ob (w := 0) (k := 0) (by omega) hD (by omega) hc (fun _ h => sy_tk22 h) (by omega) cw (fun z hz => br_f (by decide) (br_f (by decide) (br_f (by decide) (br_f (by decide) (br_t (by rw [ht2]; rfl) (br_t rfl (br_f (by decide) (br_t rfl hpost))))))))
    · exact fun y => absurd y (by decide)
  · refine ⟨0, ?_, ?_, ?_⟩
    · intro post hpost
      exact sx_wh (r := 0) (k := 0) (by omega) hD (by omega) hc (fun _ h => sx_nt22 h) (by omega) (fun _ h => sx_ns22 ht (Or.inr ⟨ht2, rfl⟩) h) (Or.inr ⟨rfl, (fun _ => sx_ad22 (br_t rfl hpost)), fun _ => hpost⟩)
    · intro post hpost
      exact sy_ob (w := 0) (k := 0) (by omega) hD (by omega) hc (fun _ h => sy_tk22 h) (by omega) cw (fun z hz => br_f (by decide) (br_f (by decide) (br_f (by decide) (br_f (by decide) (br_f (fun y => ht2 ((nI_eq (b := 200) (by omega) (by omega)).mp y)) (br_t rfl (br_f (by decide) (br_f (by decide) (br_f (by decide) (br_f (by decide) (br_f (by decide) (br_t rfl hpost))))))))))))
    · exact fun _ => ⟨by omega, by omega⟩
theorem sw_23 (h80 : T ≤ 80) (hp : p < T) (hD : D ≤ 16) (hE : E ≤ 16) (ht : t ≤ 200) (hl : l ≤ 7) (hV : sk_vs c T ≤ 12) (hc : c p = 23) : ∃ e : Int32, (∀ post : Int32 → Prop, post e → wpX_whyStop post (xT, tr, ep, ind, nI (sk_vs c T), pc, nI D, nI E, nI p, nI t, nI (l + 1), c, a, nm, nv, ps, pst, psk, jm, cp, stk, em, ce, rp, ct, cm)) ∧ (∀ post : Int32 → Prop, post e → wpY_obstacle post (nI T, tr, ep, nI D, nI E, nI l, nI t, c, a, stk, em, ce, po, yc, ye) (nI p)) ∧ (e = 0 → 1 ≤ D ∧ True) := by
  have cw : ∀ post : Int32 → Prop, post 0 → wpY_callsWord post (nI T, tr, ep, nI D, nI E, nI l, nI t, c, a, stk, em, ce, po, yc, ye) (nI p) := fun post h => sy_cwN (by omega) (by rw [hc]; decide) h
  by_cases hu : D < 1
  · refine ⟨11, ?_, ?_, ?_⟩
    · intro post hpost
      exact sx_whU (k := 1) (by omega) hD (by omega) hc (fun _ h => sx_nt23 h) hu hpost
    · intro post hpost
      exact sy_obU (k := 1) (by omega) hD (by omega) hc (fun _ h => sy_tk23 h) hu hpost
    · exact fun y => absurd y (by decide)
  · obtain ⟨d, rfl⟩ : ∃ d, D = d + 1 := ⟨D - 1, by omega⟩
    have hzz : ∀ {z : Int32}, (0 < d + 1 → z = stk (d + 1 - 1)) → z = stk d := fun h => h (by omega)
    · refine ⟨0, ?_, ?_, ?_⟩
      · intro post hpost
        exact sx_wh (r := 0) (k := 1) (by omega) hD (by omega) hc (fun _ h => sx_nt23 h) (by omega) (fun _ h => sx_ns23 h) (Or.inr ⟨rfl, (fun _ => sx_ad23 (br_t rfl hpost)), fun _ => hpost⟩)
      · intro post hpost
        exact sy_ob (w := 0) (k := 1) (by omega) hD (by omega) hc (fun _ h => sy_tk23 h) (by omega) cw (fun z hz => br_f (by decide) (br_f (by decide) (br_f (by decide) (br_f (by decide) (sy_95n (by decide) (by decide) (by decide) (br_t rfl (br_f (by decide) (br_f (by decide) (br_f (by decide) (br_f (by decide) (br_f (by decide) (br_t rfl hpost))))))))))))
      · exact fun _ => ⟨by omega, trivial⟩
theorem sw_24 (h80 : T ≤ 80) (hp : p < T) (hD : D ≤ 16) (hE : E ≤ 16) (ht : t ≤ 200) (hl : l ≤ 7) (hV : sk_vs c T ≤ 12) (hc : c p = 24) : ∃ e : Int32, (∀ post : Int32 → Prop, post e → wpX_whyStop post (xT, tr, ep, ind, nI (sk_vs c T), pc, nI D, nI E, nI p, nI t, nI (l + 1), c, a, nm, nv, ps, pst, psk, jm, cp, stk, em, ce, rp, ct, cm)) ∧ (∀ post : Int32 → Prop, post e → wpY_obstacle post (nI T, tr, ep, nI D, nI E, nI l, nI t, c, a, stk, em, ce, po, yc, ye) (nI p)) ∧ (e = 0 → 0 ≤ D ∧ t < 200) := by
  have cw : ∀ post : Int32 → Prop, post 0 → wpY_callsWord post (nI T, tr, ep, nI D, nI E, nI l, nI t, c, a, stk, em, ce, po, yc, ye) (nI p) := fun post h => sy_cwN (by omega) (by rw [hc]; decide) h
  by_cases ht2 : t = 200
  · refine ⟨16, ?_, ?_, ?_⟩
    · intro post hpost
      exact sx_wh (r := 16) (k := 0) (by omega) hD (by omega) hc (fun _ h => sx_nt24 h) (by omega) (fun _ h => sx_ns24 ht (Or.inl ⟨ht2, rfl⟩) h) (Or.inl ⟨by decide, hpost⟩)
    · intro post hpost
      exact sy_ob (w := 0) (k := 0) (by omega) hD (by omega) hc (fun _ h => sy_tk24 h) (by omega) cw (fun z hz => br_f (by decide) (br_f (by decide) (br_f (by decide) (br_f (by decide) (br_t (by rw [ht2]; rfl) (br_t rfl (br_f (by decide) (br_f (by decide) (br_t rfl hpost)))))))))
    · exact fun y => absurd y (by decide)
  · refine ⟨0, ?_, ?_, ?_⟩
    · intro post hpost
      exact sx_wh (r := 0) (k := 0) (by omega) hD (by omega) hc (fun _ h => sx_nt24 h) (by omega) (fun _ h => sx_ns24 ht (Or.inr ⟨ht2, rfl⟩) h) (Or.inr ⟨rfl, (fun _ => sx_ad24 (br_t rfl hpost)), fun _ => hpost⟩)
    · intro post hpost
      exact sy_ob (w := 0) (k := 0) (by omega) hD (by omega) hc (fun _ h => sy_tk24 h) (by omega) cw (fun z hz => br_f (by decide) (br_f (by decide) (br_f (by decide) (br_f (by decide) (br_f (fun y => ht2 ((nI_eq (b := 200) (by omega) (by omega)).mp y)) (br_t rfl (br_f (by decide) (br_f (by decide) (br_f (by decide) (br_f (by decide) (br_f (by decide) (br_t rfl hpost))))))))))))
    · exact fun _ => ⟨by omega, by omega⟩
theorem sw_25 (h80 : T ≤ 80) (hp : p < T) (hD : D ≤ 16) (hE : E ≤ 16) (ht : t ≤ 200) (hl : l ≤ 7) (hV : sk_vs c T ≤ 12) (hc : c p = 25) : ∃ e : Int32, (∀ post : Int32 → Prop, post e → wpX_whyStop post (xT, tr, ep, ind, nI (sk_vs c T), pc, nI D, nI E, nI p, nI t, nI (l + 1), c, a, nm, nv, ps, pst, psk, jm, cp, stk, em, ce, rp, ct, cm)) ∧ (∀ post : Int32 → Prop, post e → wpY_obstacle post (nI T, tr, ep, nI D, nI E, nI l, nI t, c, a, stk, em, ce, po, yc, ye) (nI p)) ∧ (e = 0 → 0 ≤ D ∧ D < 16) := by
  have cw : ∀ post : Int32 → Prop, post 0 → wpY_callsWord post (nI T, tr, ep, nI D, nI E, nI l, nI t, c, a, stk, em, ce, po, yc, ye) (nI p) := fun post h => sy_cwN (by omega) (by rw [hc]; decide) h
  by_cases h16 : D = 16
  · refine ⟨12, ?_, ?_, ?_⟩
    · intro post hpost
      exact sx_wh (r := 0) (k := 0) (by omega) hD (by omega) hc (fun _ h => sx_nt25 h) (by omega) (fun _ h => sx_ns25 h) (Or.inr ⟨rfl, (fun _ => sx_ad25 (br_f (by decide) hpost)), fun y => absurd h16 y⟩)
    · intro post hpost
      exact sy_ob (w := 0) (k := 0) (by omega) hD (by omega) hc (fun _ h => sy_tk25 h) (by omega) cw (fun z hz => br_f (by decide) (br_f (by decide) (br_f (by decide) (br_f (by decide) (sy_95n (by decide) (by decide) (by decide) (br_t rfl (br_f (by decide) (br_f (by decide) (br_f (by decide) (br_t rfl (br_f (by decide) (br_t (by rw [h16]; rfl) hpost))))))))))))
    · exact fun y => absurd y (by decide)
  · refine ⟨0, ?_, ?_, ?_⟩
    · intro post hpost
      exact sx_wh (r := 0) (k := 0) (by omega) hD (by omega) hc (fun _ h => sx_nt25 h) (by omega) (fun _ h => sx_ns25 h) (Or.inr ⟨rfl, (fun y => absurd y (by omega)), fun _ => hpost⟩)
    · intro post hpost
      exact sy_ob (w := 0) (k := 0) (by omega) hD (by omega) hc (fun _ h => sy_tk25 h) (by omega) cw (fun z hz => br_f (by decide) (br_f (by decide) (br_f (by decide) (br_f (by decide) (sy_95n (by decide) (by decide) (by decide) (br_t rfl (br_f (by decide) (br_f (by decide) (br_f (by decide) (br_t rfl (br_f (by decide) (br_f (fun y => h16 ((nI_eq (b := 16) (by omega) (by omega)).mp y)) hpost))))))))))))
    · exact fun _ => ⟨by omega, by omega⟩
theorem sw_27 (h80 : T ≤ 80) (hp : p < T) (hD : D ≤ 16) (hE : E ≤ 16) (ht : t ≤ 200) (hl : l ≤ 7) (hV : sk_vs c T ≤ 12) (hc : c p = 27) : ∃ e : Int32, (∀ post : Int32 → Prop, post e → wpX_whyStop post (xT, tr, ep, ind, nI (sk_vs c T), pc, nI D, nI E, nI p, nI t, nI (l + 1), c, a, nm, nv, ps, pst, psk, jm, cp, stk, em, ce, rp, ct, cm)) ∧ (∀ post : Int32 → Prop, post e → wpY_obstacle post (nI T, tr, ep, nI D, nI E, nI l, nI t, c, a, stk, em, ce, po, yc, ye) (nI p)) ∧ (e = 0 → 0 ≤ D ∧ True) := by
  have cw : ∀ post : Int32 → Prop, post 0 → wpY_callsWord post (nI T, tr, ep, nI D, nI E, nI l, nI t, c, a, stk, em, ce, po, yc, ye) (nI p) := fun post h => sy_cwN (by omega) (by rw [hc]; decide) h
  · refine ⟨0, ?_, ?_, ?_⟩
    · intro post hpost
      exact sx_wh (r := 0) (k := 0) (by omega) hD (by omega) hc (fun _ h => sx_nt27 h) (by omega) (fun _ h => sx_ns27 h) (Or.inr ⟨rfl, (fun _ => sx_ad27 (br_t rfl hpost)), fun _ => hpost⟩)
    · intro post hpost
      exact sy_ob (w := 0) (k := 0) (by omega) hD (by omega) hc (fun _ h => sy_tk27 h) (by omega) cw (fun z hz => br_f (by decide) (br_f (by decide) (br_f (by decide) (br_f (by decide) (sy_95n (by decide) (by decide) (by decide) (br_t rfl (br_f (by decide) (br_f (by decide) (br_f (by decide) (br_f (by decide) (br_f (by decide) (br_t rfl hpost))))))))))))
    · exact fun _ => ⟨by omega, trivial⟩
theorem sw_15 (h80 : T ≤ 80) (hp : p < T) (hD : D ≤ 16) (hE : E ≤ 16) (ht : t ≤ 200) (hl : l ≤ 7) (hV : sk_vs c T ≤ 12) (hc : c p = 15) {n q : Nat} (hn : n < 12) (ha : a p = nI n) (hq : q < T) (hd : sk_df c a q (nI n)) (hlq : ∀ r, r < q → ¬ sk_df c a r (nI n)) (hm : (c q = 26 ∧ nm n = 1) ∨ (c q = 28 ∧ nm n = 2)) : ∃ e : Int32, (∀ post : Int32 → Prop, post e → wpX_whyStop post (xT, tr, ep, ind, nI (sk_vs c T), pc, nI D, nI E, nI p, nI t, nI (l + 1), c, a, nm, nv, ps, pst, psk, jm, cp, stk, em, ce, rp, ct, cm)) ∧ (∀ post : Int32 → Prop, post e → wpY_obstacle post (nI T, tr, ep, nI D, nI E, nI l, nI t, c, a, stk, em, ce, po, yc, ye) (nI p)) ∧ (e = 0 → (nm n = 1 → t < 200 ∧ l < 7) ∧ (nm n = 2 → D < 16)) := by
  rcases hm with ⟨h26, hm⟩ | ⟨h28, hm⟩
  · have cw : ∀ post : Int32 → Prop, post 1 → wpY_callsWord post (nI T, tr, ep, nI D, nI E, nI l, nI t, c, a, stk, em, ce, po, yc, ye) (nI p) := fun post h => sy_cwW h80 hp hq hc ha hd hlq h26 h
    have m2 : ¬ nm n = 2 := by rw [hm]; decide
    by_cases ht2 : t = 200
    · refine ⟨16, ?_, ?_, ?_⟩
      · intro post hpost
        exact sx_wh (r := 16) (k := 0) (by omega) hD (by omega) hc (fun _ h => sx_nt15 h) (by omega) (fun _ h => sx_ns15 (sx_csW (by omega) hn ht hl ha m2 (Or.inl ⟨ht2, rfl⟩) h)) (Or.inl ⟨by decide, hpost⟩)
      · intro post hpost
        exact sy_ob (w := 1) (k := 0) (by omega) hD (by omega) hc (fun _ h => sy_tk15 h) (by omega) cw (fun z hz => br_f (by decide) (br_f (by decide) (br_f (by decide) (br_f (by decide) (br_t (by rw [ht2]; rfl) (br_f (by decide) hpost))))))
      · exact fun y => absurd y (by decide)
    · by_cases hl2 : l = 7
      · refine ⟨17, ?_, ?_, ?_⟩
        · intro post hpost
          exact sx_wh (r := 17) (k := 0) (by omega) hD (by omega) hc (fun _ h => sx_nt15 h) (by omega) (fun _ h => sx_ns15 (sx_csW (by omega) hn ht hl ha m2 (Or.inr (Or.inl ⟨ht2, hl2, rfl⟩)) h)) (Or.inl ⟨by decide, hpost⟩)
        · intro post hpost
          exact sy_ob (w := 1) (k := 0) (by omega) hD (by omega) hc (fun _ h => sy_tk15 h) (by omega) cw (fun z hz => br_f (by decide) (br_f (by decide) (br_f (by decide) (br_f (by decide) (br_f (fun y => ht2 ((nI_eq (b := 200) (by omega) (by omega)).mp y)) (br_f (by decide) (br_t (by rw [hl2]; rfl) hpost)))))))
        · exact fun y => absurd y (by decide)
      · refine ⟨0, ?_, ?_, ?_⟩
        · intro post hpost
          exact sx_wh (r := 0) (k := 0) (by omega) hD (by omega) hc (fun _ h => sx_nt15 h) (by omega) (fun _ h => sx_ns15 (sx_csW (by omega) hn ht hl ha m2 (Or.inr (Or.inr ⟨ht2, hl2, rfl⟩)) h)) (Or.inr ⟨rfl, (fun _ => sx_ad15W (by omega) hn ha m2 (br_t rfl hpost)), fun _ => hpost⟩)
        · intro post hpost
          exact sy_ob (w := 1) (k := 0) (by omega) hD (by omega) hc (fun _ h => sy_tk15 h) (by omega) cw (fun z hz => br_f (by decide) (br_f (by decide) (br_f (by decide) (br_f (by decide) (br_f (fun y => ht2 ((nI_eq (b := 200) (by omega) (by omega)).mp y)) (br_f (by decide) (br_f (fun y => hl2 ((nI_eq (b := 7) (by omega) (by omega)).mp y)) (br_f (by decide) (br_f (by decide) (br_f (by decide) (br_f (by decide) (br_t rfl (br_f (by decide) (br_t rfl hpost))))))))))))))
        · exact fun _ => ⟨fun _ => ⟨by omega, by omega⟩, fun y => absurd y m2⟩
  · have cw : ∀ post : Int32 → Prop, post 0 → wpY_callsWord post (nI T, tr, ep, nI D, nI E, nI l, nI t, c, a, stk, em, ce, po, yc, ye) (nI p) := fun post h => sy_cwV h80 hp hq hc ha hd hlq (by rw [h28]; decide) h
    have m1 : ¬ nm n = 1 := by rw [hm]; decide
    by_cases h16 : D = 16
    · refine ⟨12, ?_, ?_, ?_⟩
      · intro post hpost
        exact sx_wh (r := 0) (k := 0) (by omega) hD (by omega) hc (fun _ h => sx_nt15 h) (by omega) (fun _ h => sx_ns15 (sx_csV (by omega) hn ha hm h)) (Or.inr ⟨rfl, (fun _ => sx_ad15V (by omega) hn ha hm (br_f (by decide) hpost)), fun y => absurd h16 y⟩)
      · intro post hpost
        exact sy_ob (w := 0) (k := 0) (by omega) hD (by omega) hc (fun _ h => sy_tk15 h) (by omega) cw (fun z hz => br_f (by decide) (br_f (by decide) (br_f (by decide) (br_f (by decide) (sy_95n (by decide) (by decide) (by decide) (br_t rfl (br_f (by decide) (br_f (by decide) (br_f (by decide) (br_f (by decide) (br_t rfl (br_t rfl (br_f (by decide) (br_t (by rw [h16]; rfl) hpost))))))))))))))
      · exact fun y => absurd y (by decide)
    · refine ⟨0, ?_, ?_, ?_⟩
      · intro post hpost
        exact sx_wh (r := 0) (k := 0) (by omega) hD (by omega) hc (fun _ h => sx_nt15 h) (by omega) (fun _ h => sx_ns15 (sx_csV (by omega) hn ha hm h)) (Or.inr ⟨rfl, (fun y => absurd y h16), fun _ => hpost⟩)
      · intro post hpost
        exact sy_ob (w := 0) (k := 0) (by omega) hD (by omega) hc (fun _ h => sy_tk15 h) (by omega) cw (fun z hz => br_f (by decide) (br_f (by decide) (br_f (by decide) (br_f (by decide) (sy_95n (by decide) (by decide) (by decide) (br_t rfl (br_f (by decide) (br_f (by decide) (br_f (by decide) (br_f (by decide) (br_t rfl (br_t rfl (br_f (by decide) (br_f (fun y => h16 ((nI_eq (b := 16) (by omega) (by omega)).mp y)) hpost))))))))))))))
      · exact fun _ => ⟨fun y => absurd y m1, fun _ => by omega⟩
end
end
section
section
variable {xT tr ep ind vc pc xD xE cur tu ca : Int32} {c a nm nv ps pst psk jm cp stk em ce rp ct cm : Nat → Int32}
variable {D E p t l : Nat}
theorem sx_rs1 {post : Int32 → Prop} {x y : Int32} (h : post (x + y)) : wpX_resultOf post (xT, tr, ep, ind, vc, pc, xD, xE, cur, tu, ca, c, a, nm, nv, ps, pst, psk, jm, cp, stk, em, ce, rp, ct, cm) 1 x y := br_f (by decide) (br_f (by decide) (br_t rfl (h)))
theorem sx_rs2 {post : Int32 → Prop} {x y : Int32} (h : post (x - y)) : wpX_resultOf post (xT, tr, ep, ind, vc, pc, xD, xE, cur, tu, ca, c, a, nm, nv, ps, pst, psk, jm, cp, stk, em, ce, rp, ct, cm) 2 x y := br_f (by decide) (br_f (by decide) (br_f (by decide) (br_t rfl (h))))
theorem sx_rs3 {post : Int32 → Prop} {x y : Int32} (h : post (x * y)) : wpX_resultOf post (xT, tr, ep, ind, vc, pc, xD, xE, cur, tu, ca, c, a, nm, nv, ps, pst, psk, jm, cp, stk, em, ce, rp, ct, cm) 3 x y := br_f (by decide) (br_f (by decide) (br_f (by decide) (br_f (by decide) (br_t rfl (h)))))
theorem sx_rs4 {post : Int32 → Prop} {x y : Int32} (hy : ¬ y = 0) (h : post (x / y)) : wpX_resultOf post (xT, tr, ep, ind, vc, pc, xD, xE, cur, tu, ca, c, a, nm, nv, ps, pst, psk, jm, cp, stk, em, ce, rp, ct, cm) 4 x y := br_f (by decide) (br_f (by decide) (br_f (by decide) (br_f (by decide) (br_f (by decide) (br_t rfl ⟨hy, h⟩)))))
theorem sx_rs10 {post : Int32 → Prop} {x y : Int32} (h : post (if x = y then (1 : Int32) else 0)) : wpX_resultOf post (xT, tr, ep, ind, vc, pc, xD, xE, cur, tu, ca, c, a, nm, nv, ps, pst, psk, jm, cp, stk, em, ce, rp, ct, cm) 10 x y := by
  refine br_f (by decide) (br_f (by decide) (br_f (by decide) (br_f (by decide) (br_f (by decide) (br_f (by decide) (br_f (by decide) (br_f (by decide) (br_f (by decide) (br_f (by decide) (br_f (by decide) (br_t rfl (?_))))))))))))
  by_cases e : x = y
  · rw [if_pos e] at h; exact br_t e h
  · rw [if_neg e] at h; exact br_f e h
theorem sx_rs11 {post : Int32 → Prop} {x y : Int32} (h : post (if y ≤ x then (0 : Int32) else 1)) : wpX_resultOf post (xT, tr, ep, ind, vc, pc, xD, xE, cur, tu, ca, c, a, nm, nv, ps, pst, psk, jm, cp, stk, em, ce, rp, ct, cm) 11 x y := by
  refine br_f (by decide) (br_t (by decide) ?_)
  by_cases e : y ≤ x
  · rw [if_pos e] at h; exact br_t e h
  · rw [if_neg e] at h; exact br_f e h
theorem sx_re5 {post : SX → Prop} (hD : D + 2 ≤ 16) (h : post (xT, tr, ep, ind, vc, pc, nI (D + 2), xE, cur, tu, ca, c, a, nm, nv, ps, pst, psk, jm, cp, upd stk (D + 1) (stk D), em, ce, rp, ct, cm)) : wpX_rearrange post (xT, tr, ep, ind, vc, pc, nI (D + 1), xE, cur, tu, ca, c, a, nm, nv, ps, pst, psk, jm, cp, stk, em, ce, rp, ct, cm) 5 := by
  refine br_f (by decide) (br_f (by decide) (br_t rfl ?_))
  rw [nI_pred, nI_clamp (n := D) (by omega)]
  exact ⟨vp_in_nI (by omega) (by decide), sx_put (by omega) h⟩
theorem sx_re6 {post : SX → Prop} (h : post (xT, tr, ep, ind, vc, pc, nI D, xE, cur, tu, ca, c, a, nm, nv, ps, pst, psk, jm, cp, stk, em, ce, rp, ct, cm)) : wpX_rearrange post (xT, tr, ep, ind, vc, pc, nI (D + 1), xE, cur, tu, ca, c, a, nm, nv, ps, pst, psk, jm, cp, stk, em, ce, rp, ct, cm) 6 :=
  br_f (by decide) (br_f (by decide) (br_f (by decide) (br_t rfl (nm_r (nI_pred D) h))))
theorem sx_re7 {post : SX → Prop} (hD : D + 2 ≤ 16) (h : post (xT, tr, ep, ind, vc, pc, nI (D + 2), xE, cur, tu, ca, c, a, nm, nv, ps, pst, psk, jm, cp, upd (upd stk D (stk (D + 1))) (D + 1) (stk D), em, ce, rp, ct, cm)) : wpX_rearrange post (xT, tr, ep, ind, vc, pc, nI (D + 2), xE, cur, tu, ca, c, a, nm, nv, ps, pst, psk, jm, cp, stk, em, ce, rp, ct, cm) 7 := by
  refine br_f (by decide) (br_f (by decide) (br_f (by decide) (br_f (by decide) (br_t rfl ?_))))
  exact sx_up1 hD h
theorem sx_re8 {post : SX → Prop} (hD : D + 3 ≤ 16) (h : post (xT, tr, ep, ind, vc, pc, nI (D + 3), xE, cur, tu, ca, c, a, nm, nv, ps, pst, psk, jm, cp, upd stk (D + 2) (stk D), em, ce, rp, ct, cm)) : wpX_rearrange post (xT, tr, ep, ind, vc, pc, nI (D + 2), xE, cur, tu, ca, c, a, nm, nv, ps, pst, psk, jm, cp, stk, em, ce, rp, ct, cm) 8 := by
  refine br_f (by decide) (br_f (by decide) (br_f (by decide) (br_f (by decide) (br_f (by decide) (br_t rfl ?_)))))
  rw [show nI (D + 2) - 2 = nI D from pk_sub (a := D + 2) (b := 2) (by omega), nI_clamp (n := D) (by omega)]
  exact ⟨vp_in_nI (by omega) (by decide), sx_put (by omega) h⟩
theorem sx_re9 {post : SX → Prop} (hD : D + 3 ≤ 16) (h : post (xT, tr, ep, ind, vc, pc, nI (D + 3), xE, cur, tu, ca, c, a, nm, nv, ps, pst, psk, jm, cp, upd (upd (upd stk D (stk (D + 1))) (D + 1) (stk (D + 2))) (D + 2) (stk D), em, ce, rp, ct, cm)) : wpX_rearrange post (xT, tr, ep, ind, vc, pc, nI (D + 3), xE, cur, tu, ca, c, a, nm, nv, ps, pst, psk, jm, cp, stk, em, ce, rp, ct, cm) 9 := by
  refine br_f (by decide) (br_t (by decide) ?_)
  exact sx_up2 hD h
theorem sx_go18 {post : SX → Prop} (h : post (xT, tr, ep, ind, vc, pc, xD, xE, nI (p + 1), tu, ca, c, a, nm, nv, ps, pst, psk, jm, cp, stk, em, ce, rp, ct, cm)) : wpX_goOn post (xT, tr, ep, ind, vc, pc, xD, xE, nI p, tu, ca, c, a, nm, nv, ps, pst, psk, jm, cp, stk, em, ce, rp, ct, cm) 18 := by
  refine br_f (by decide) (br_f (by decide) (br_f (by decide) (br_f (by decide) (br_f (by decide) (br_t rfl (?_))))))
  exact nm_r (nI_1 p) h
theorem sx_go19 {post : SX → Prop} (h : post (xT, tr, ep, ind, vc, pc, xD, xE, nI (p + 1), tu, ca, c, a, nm, nv, ps, pst, psk, jm, cp, stk, em, ce, rp, ct, cm)) : wpX_goOn post (xT, tr, ep, ind, vc, pc, xD, xE, nI p, tu, ca, c, a, nm, nv, ps, pst, psk, jm, cp, stk, em, ce, rp, ct, cm) 19 := by
  refine br_f (by decide) (br_f (by decide) (br_f (by decide) (br_f (by decide) (br_f (by decide) (br_f (by decide) (br_t rfl (?_)))))))
  exact nm_r (nI_1 p) h
theorem sx_go17 {post : SX → Prop} {b : Int32} (hp : p < 80) (e : jm p = b) (h : post (xT, tr, ep, ind, vc, pc, xD, xE, b, tu, ca, c, a, nm, nv, ps, pst, psk, jm, cp, stk, em, ce, rp, ct, cm)) : wpX_goOn post (xT, tr, ep, ind, vc, pc, xD, xE, nI p, tu, ca, c, a, nm, nv, ps, pst, psk, jm, cp, stk, em, ce, rp, ct, cm) 17 := by
  refine br_f (by decide) (br_f (by decide) (br_f (by decide) (br_f (by decide) (br_t rfl (?_)))))
  rw [nI_clamp (n := p) (by omega), e]
  exact ⟨vp_in_nI (n := p) hp (by decide), nm_e h⟩
theorem sx_go16 {post : SX → Prop} (h : wX_goOn_84 post xT tr ep ind vc pc xD xE cur tu ca c a nm nv ps pst psk jm cp stk em ce rp ct cm) : wpX_goOn post (xT, tr, ep, ind, vc, pc, xD, xE, cur, tu, ca, c, a, nm, nv, ps, pst, psk, jm, cp, stk, em, ce, rp, ct, cm) 16 := by
  refine br_f (by decide) (br_f (by decide) (br_f (by decide) (br_t rfl (?_))))
  exact h
theorem sx_go21 {post : SX → Prop} (h : wX_goOn_84 post xT tr ep ind vc pc xD xE cur tu ca c a nm nv ps pst psk jm cp stk em ce rp ct cm) : wpX_goOn post (xT, tr, ep, ind, vc, pc, xD, xE, cur, tu, ca, c, a, nm, nv, ps, pst, psk, jm, cp, stk, em, ce, rp, ct, cm) 21 := by
  refine br_f (by decide) (br_f (by decide) (br_f (by decide) (br_f (by decide) (br_f (by decide) (br_f (by decide) (br_f (by decide) (br_f (by decide) (br_t rfl (?_)))))))))
  exact h
theorem sx_go20 {post : SX → Prop} (h : wpX_endUntil post (xT, tr, ep, ind, vc, pc, xD, xE, cur, tu, ca, c, a, nm, nv, ps, pst, psk, jm, cp, stk, em, ce, rp, ct, cm)) : wpX_goOn post (xT, tr, ep, ind, vc, pc, xD, xE, cur, tu, ca, c, a, nm, nv, ps, pst, psk, jm, cp, stk, em, ce, rp, ct, cm) 20 := by
  refine br_f (by decide) (br_f (by decide) (br_f (by decide) (br_f (by decide) (br_f (by decide) (br_f (by decide) (br_f (by decide) (br_t rfl (?_))))))))
  exact h
theorem sx_go22 {post : SX → Prop} (h : wpX_turnBack post (xT, tr, ep, ind, vc, pc, xD, xE, cur, tu, ca, c, a, nm, nv, ps, pst, psk, jm, cp, stk, em, ce, rp, ct, cm)) : wpX_goOn post (xT, tr, ep, ind, vc, pc, xD, xE, cur, tu, ca, c, a, nm, nv, ps, pst, psk, jm, cp, stk, em, ce, rp, ct, cm) 22 := by
  refine br_f (by decide) (br_f (by decide) (br_f (by decide) (br_f (by decide) (br_f (by decide) (br_f (by decide) (br_f (by decide) (br_f (by decide) (br_f (by decide) (br_t rfl (?_))))))))))
  exact h
theorem sx_go23 {post : SX → Prop} (h : wpX_startCount post (xT, tr, ep, ind, vc, pc, xD, xE, cur, tu, ca, c, a, nm, nv, ps, pst, psk, jm, cp, stk, em, ce, rp, ct, cm)) : wpX_goOn post (xT, tr, ep, ind, vc, pc, xD, xE, cur, tu, ca, c, a, nm, nv, ps, pst, psk, jm, cp, stk, em, ce, rp, ct, cm) 23 := by
  refine br_f (by decide) (br_f (by decide) (br_f (by decide) (br_f (by decide) (br_f (by decide) (br_f (by decide) (br_f (by decide) (br_f (by decide) (br_f (by decide) (br_f (by decide) (br_t rfl (?_)))))))))))
  exact h
theorem sx_go24 {post : SX → Prop} (h : wpX_advanceCount post (xT, tr, ep, ind, vc, pc, xD, xE, cur, tu, ca, c, a, nm, nv, ps, pst, psk, jm, cp, stk, em, ce, rp, ct, cm)) : wpX_goOn post (xT, tr, ep, ind, vc, pc, xD, xE, cur, tu, ca, c, a, nm, nv, ps, pst, psk, jm, cp, stk, em, ce, rp, ct, cm) 24 := by
  refine br_f (by decide) (br_f (by decide) (br_f (by decide) (br_f (by decide) (br_f (by decide) (br_f (by decide) (br_f (by decide) (br_f (by decide) (br_f (by decide) (br_f (by decide) (br_f (by decide) (br_t rfl (?_))))))))))))
  exact h
theorem sx_go25 {post : SX → Prop} (h : wpX_putCount post (xT, tr, ep, ind, vc, pc, xD, xE, cur, tu, ca, c, a, nm, nv, ps, pst, psk, jm, cp, stk, em, ce, rp, ct, cm)) : wpX_goOn post (xT, tr, ep, ind, vc, pc, xD, xE, cur, tu, ca, c, a, nm, nv, ps, pst, psk, jm, cp, stk, em, ce, rp, ct, cm) 25 := by
  refine br_f (by decide) (br_f (by decide) (br_f (by decide) (br_f (by decide) (br_f (by decide) (br_f (by decide) (br_f (by decide) (br_f (by decide) (br_f (by decide) (br_f (by decide) (br_f (by decide) (br_f (by decide) (br_t rfl (?_)))))))))))))
  exact h
theorem sx_go27 {post : SX → Prop} (h : wpX_endCall post (xT, tr, ep, ind, vc, pc, xD, xE, cur, tu, ca, c, a, nm, nv, ps, pst, psk, jm, cp, stk, em, ce, rp, ct, cm)) : wpX_goOn post (xT, tr, ep, ind, vc, pc, xD, xE, cur, tu, ca, c, a, nm, nv, ps, pst, psk, jm, cp, stk, em, ce, rp, ct, cm) 27 := by
  refine br_f (by decide) (br_f (by decide) (br_f (by decide) (br_f (by decide) (br_f (by decide) (br_f (by decide) (br_f (by decide) (br_f (by decide) (br_f (by decide) (br_f (by decide) (br_f (by decide) (br_f (by decide) (br_f (by decide) (br_f (by decide) (br_t rfl (?_)))))))))))))))
  exact h
theorem sx_go15 {post : SX → Prop} (hp : p < 80) (h : wpX_useName post (xT, tr, ep, ind, vc, pc, xD, xE, nI p, tu, ca, c, a, nm, nv, ps, pst, psk, jm, cp, stk, em, ce, rp, ct, cm) (a p)) : wpX_goOn post (xT, tr, ep, ind, vc, pc, xD, xE, nI p, tu, ca, c, a, nm, nv, ps, pst, psk, jm, cp, stk, em, ce, rp, ct, cm) 15 := by
  refine br_f (by decide) (br_f (by decide) (br_t rfl (?_)))
  rw [nI_clamp (n := p) (by omega)]
  exact ⟨vp_in_nI (n := p) hp (by decide), h⟩
theorem xc_0 {post : SX → Prop} (hp : p < 80) (hc : c p = 0) (hD : D < 16) (h : post (xT, tr, ep, ind, vc, pc, nI (D + 1), nI E, nI (p + 1), nI t, nI (l + 1), c, a, nm, nv, ps, pst, psk, jm, cp, upd stk D (a p), em, ce, rp, ct, cm)) : wpX_carryOut post (xT, tr, ep, ind, vc, pc, nI (D), nI E, nI p, nI t, nI (l + 1), c, a, nm, nv, ps, pst, psk, jm, cp, stk, em, ce, rp, ct, cm) := by
  refine ⟨vp_in_nI (n := p) hp (by decide), ?_⟩
  rw [nI_clamp (n := p) (by omega), hc]
  refine nm_e ?_
  refine br_f (by decide) (br_f (by decide) (br_t rfl (?_)))
  refine ⟨vp_in_nI (n := p) hp (by decide), ?_⟩
  refine sx_put hD ?_
  exact nm_r (nI_1 p) h
theorem xh_1 {post : SX → Prop} (hp : p < 80) (hc : c p = 1) (h : wX_carryOut_110 post 1 xT tr ep ind vc pc xD xE (nI p) tu ca c a nm nv ps pst psk jm cp stk em ce rp ct cm) : wpX_carryOut post (xT, tr, ep, ind, vc, pc, xD, xE, nI p, tu, ca, c, a, nm, nv, ps, pst, psk, jm, cp, stk, em, ce, rp, ct, cm) := by
  refine ⟨vp_in_nI (n := p) hp (by decide), ?_⟩
  rw [nI_clamp (n := p) (by omega), hc]
  refine nm_e ?_
  refine br_f (by decide) (br_f (by decide) (br_f (by decide) (br_t rfl (?_))))
  exact h
theorem xh_2 {post : SX → Prop} (hp : p < 80) (hc : c p = 2) (h : wX_carryOut_110 post 2 xT tr ep ind vc pc xD xE (nI p) tu ca c a nm nv ps pst psk jm cp stk em ce rp ct cm) : wpX_carryOut post (xT, tr, ep, ind, vc, pc, xD, xE, nI p, tu, ca, c, a, nm, nv, ps, pst, psk, jm, cp, stk, em, ce, rp, ct, cm) := by
  refine ⟨vp_in_nI (n := p) hp (by decide), ?_⟩
  rw [nI_clamp (n := p) (by omega), hc]
  refine nm_e ?_
  refine br_f (by decide) (br_f (by decide) (br_f (by decide) (br_f (by decide) (br_t rfl (?_)))))
  exact h
theorem xh_3 {post : SX → Prop} (hp : p < 80) (hc : c p = 3) (h : wX_carryOut_110 post 3 xT tr ep ind vc pc xD xE (nI p) tu ca c a nm nv ps pst psk jm cp stk em ce rp ct cm) : wpX_carryOut post (xT, tr, ep, ind, vc, pc, xD, xE, nI p, tu, ca, c, a, nm, nv, ps, pst, psk, jm, cp, stk, em, ce, rp, ct, cm) := by
  refine ⟨vp_in_nI (n := p) hp (by decide), ?_⟩
  rw [nI_clamp (n := p) (by omega), hc]
  refine nm_e ?_
  refine br_f (by decide) (br_f (by decide) (br_f (by decide) (br_f (by decide) (br_f (by decide) (br_t rfl (?_))))))
  exact h
theorem xh_4 {post : SX → Prop} (hp : p < 80) (hc : c p = 4) (h : wX_carryOut_110 post 4 xT tr ep ind vc pc xD xE (nI p) tu ca c a nm nv ps pst psk jm cp stk em ce rp ct cm) : wpX_carryOut post (xT, tr, ep, ind, vc, pc, xD, xE, nI p, tu, ca, c, a, nm, nv, ps, pst, psk, jm, cp, stk, em, ce, rp, ct, cm) := by
  refine ⟨vp_in_nI (n := p) hp (by decide), ?_⟩
  rw [nI_clamp (n := p) (by omega), hc]
  refine nm_e ?_
  refine br_f (by decide) (br_f (by decide) (br_f (by decide) (br_f (by decide) (br_f (by decide) (br_f (by decide) (br_t rfl (?_)))))))
  exact h
theorem xh_5 {post : SX → Prop} (hp : p < 80) (hc : c p = 5) (h : wX_carryOut_128 post 5 xT tr ep ind vc pc xD xE (nI p) tu ca c a nm nv ps pst psk jm cp stk em ce rp ct cm) : wpX_carryOut post (xT, tr, ep, ind, vc, pc, xD, xE, nI p, tu, ca, c, a, nm, nv, ps, pst, psk, jm, cp, stk, em, ce, rp, ct, cm) := by
  refine ⟨vp_in_nI (n := p) hp (by decide), ?_⟩
  rw [nI_clamp (n := p) (by omega), hc]
  refine nm_e ?_
  refine br_f (by decide) (br_f (by decide) (br_f (by decide) (br_f (by decide) (br_f (by decide) (br_f (by decide) (br_f (by decide) (br_t rfl (?_))))))))
  exact h
theorem xh_6 {post : SX → Prop} (hp : p < 80) (hc : c p = 6) (h : wX_carryOut_128 post 6 xT tr ep ind vc pc xD xE (nI p) tu ca c a nm nv ps pst psk jm cp stk em ce rp ct cm) : wpX_carryOut post (xT, tr, ep, ind, vc, pc, xD, xE, nI p, tu, ca, c, a, nm, nv, ps, pst, psk, jm, cp, stk, em, ce, rp, ct, cm) := by
  refine ⟨vp_in_nI (n := p) hp (by decide), ?_⟩
  rw [nI_clamp (n := p) (by omega), hc]
  refine nm_e ?_
  refine br_f (by decide) (br_f (by decide) (br_f (by decide) (br_f (by decide) (br_f (by decide) (br_f (by decide) (br_f (by decide) (br_f (by decide) (br_t rfl (?_)))))))))
  exact h
theorem xh_7 {post : SX → Prop} (hp : p < 80) (hc : c p = 7) (h : wX_carryOut_128 post 7 xT tr ep ind vc pc xD xE (nI p) tu ca c a nm nv ps pst psk jm cp stk em ce rp ct cm) : wpX_carryOut post (xT, tr, ep, ind, vc, pc, xD, xE, nI p, tu, ca, c, a, nm, nv, ps, pst, psk, jm, cp, stk, em, ce, rp, ct, cm) := by
  refine ⟨vp_in_nI (n := p) hp (by decide), ?_⟩
  rw [nI_clamp (n := p) (by omega), hc]
  refine nm_e ?_
  refine br_f (by decide) (br_f (by decide) (br_f (by decide) (br_f (by decide) (br_f (by decide) (br_f (by decide) (br_f (by decide) (br_f (by decide) (br_f (by decide) (br_t rfl (?_))))))))))
  exact h
theorem xh_8 {post : SX → Prop} (hp : p < 80) (hc : c p = 8) (h : wX_carryOut_128 post 8 xT tr ep ind vc pc xD xE (nI p) tu ca c a nm nv ps pst psk jm cp stk em ce rp ct cm) : wpX_carryOut post (xT, tr, ep, ind, vc, pc, xD, xE, nI p, tu, ca, c, a, nm, nv, ps, pst, psk, jm, cp, stk, em, ce, rp, ct, cm) := by
  refine ⟨vp_in_nI (n := p) hp (by decide), ?_⟩
  rw [nI_clamp (n := p) (by omega), hc]
  refine nm_e ?_
  refine br_f (by decide) (br_f (by decide) (br_f (by decide) (br_f (by decide) (br_f (by decide) (br_f (by decide) (br_f (by decide) (br_f (by decide) (br_f (by decide) (br_f (by decide) (br_t rfl (?_)))))))))))
  exact h
theorem xh_9 {post : SX → Prop} (hp : p < 80) (hc : c p = 9) (h : wX_carryOut_128 post 9 xT tr ep ind vc pc xD xE (nI p) tu ca c a nm nv ps pst psk jm cp stk em ce rp ct cm) : wpX_carryOut post (xT, tr, ep, ind, vc, pc, xD, xE, nI p, tu, ca, c, a, nm, nv, ps, pst, psk, jm, cp, stk, em, ce, rp, ct, cm) := by
  refine ⟨vp_in_nI (n := p) hp (by decide), ?_⟩
  rw [nI_clamp (n := p) (by omega), hc]
  refine nm_e ?_
  refine br_f (by decide) (br_f (by decide) (br_f (by decide) (br_f (by decide) (br_f (by decide) (br_f (by decide) (br_f (by decide) (br_f (by decide) (br_f (by decide) (br_f (by decide) (br_f (by decide) (br_t rfl (?_))))))))))))
  exact h
theorem xh_10 {post : SX → Prop} (hp : p < 80) (hc : c p = 10) (h : wX_carryOut_110 post 10 xT tr ep ind vc pc xD xE (nI p) tu ca c a nm nv ps pst psk jm cp stk em ce rp ct cm) : wpX_carryOut post (xT, tr, ep, ind, vc, pc, xD, xE, nI p, tu, ca, c, a, nm, nv, ps, pst, psk, jm, cp, stk, em, ce, rp, ct, cm) := by
  refine ⟨vp_in_nI (n := p) hp (by decide), ?_⟩
  rw [nI_clamp (n := p) (by omega), hc]
  refine nm_e ?_
  refine br_f (by decide) (br_f (by decide) (br_f (by decide) (br_f (by decide) (br_f (by decide) (br_f (by decide) (br_f (by decide) (br_f (by decide) (br_f (by decide) (br_f (by decide) (br_f (by decide) (br_f (by decide) (br_t rfl (?_)))))))))))))
  exact h
theorem xh_11 {post : SX → Prop} (hp : p < 80) (hc : c p = 11) (h : wX_carryOut_110 post 11 xT tr ep ind vc pc xD xE (nI p) tu ca c a nm nv ps pst psk jm cp stk em ce rp ct cm) : wpX_carryOut post (xT, tr, ep, ind, vc, pc, xD, xE, nI p, tu, ca, c, a, nm, nv, ps, pst, psk, jm, cp, stk, em, ce, rp, ct, cm) := by
  refine ⟨vp_in_nI (n := p) hp (by decide), ?_⟩
  rw [nI_clamp (n := p) (by omega), hc]
  refine nm_e ?_
  refine br_f (by decide) (br_f (by decide) (br_f (by decide) (br_f (by decide) (br_f (by decide) (br_f (by decide) (br_f (by decide) (br_f (by decide) (br_f (by decide) (br_f (by decide) (br_f (by decide) (br_f (by decide) (br_f (by decide) (br_t rfl (?_))))))))))))))
  exact h
theorem xh_12 {post : SX → Prop} (hp : p < 80) (hc : c p = 12) (h : wX_carryOut_146 post 12 xT tr ep ind vc pc xD xE (nI p) tu ca c a nm nv ps pst psk jm cp stk em ce rp ct cm) : wpX_carryOut post (xT, tr, ep, ind, vc, pc, xD, xE, nI p, tu, ca, c, a, nm, nv, ps, pst, psk, jm, cp, stk, em, ce, rp, ct, cm) := by
  refine ⟨vp_in_nI (n := p) hp (by decide), ?_⟩
  rw [nI_clamp (n := p) (by omega), hc]
  refine nm_e ?_
  refine br_f (by decide) (br_f (by decide) (br_f (by decide) (br_f (by decide) (br_f (by decide) (br_f (by decide) (br_f (by decide) (br_f (by decide) (br_f (by decide) (br_f (by decide) (br_f (by decide) (br_f (by decide) (br_f (by decide) (br_f (by decide) (br_t rfl (?_)))))))))))))))
  exact h
theorem xh_13 {post : SX → Prop} (hp : p < 80) (hc : c p = 13) (h : wX_carryOut_146 post 13 xT tr ep ind vc pc xD xE (nI p) tu ca c a nm nv ps pst psk jm cp stk em ce rp ct cm) : wpX_carryOut post (xT, tr, ep, ind, vc, pc, xD, xE, nI p, tu, ca, c, a, nm, nv, ps, pst, psk, jm, cp, stk, em, ce, rp, ct, cm) := by
  refine ⟨vp_in_nI (n := p) hp (by decide), ?_⟩
  rw [nI_clamp (n := p) (by omega), hc]
  refine nm_e ?_
  refine br_f (by decide) (br_f (by decide) (br_f (by decide) (br_f (by decide) (br_f (by decide) (br_f (by decide) (br_f (by decide) (br_f (by decide) (br_f (by decide) (br_f (by decide) (br_f (by decide) (br_f (by decide) (br_f (by decide) (br_f (by decide) (br_f (by decide) (br_t rfl (?_))))))))))))))))
  exact h
theorem xh_14 {post : SX → Prop} (hp : p < 80) (hc : c p = 14) (h : wX_carryOut_146 post 14 xT tr ep ind vc pc xD xE (nI p) tu ca c a nm nv ps pst psk jm cp stk em ce rp ct cm) : wpX_carryOut post (xT, tr, ep, ind, vc, pc, xD, xE, nI p, tu, ca, c, a, nm, nv, ps, pst, psk, jm, cp, stk, em, ce, rp, ct, cm) := by
  refine ⟨vp_in_nI (n := p) hp (by decide), ?_⟩
  rw [nI_clamp (n := p) (by omega), hc]
  refine nm_e ?_
  refine br_f (by decide) (br_f (by decide) (br_f (by decide) (br_f (by decide) (br_f (by decide) (br_f (by decide) (br_f (by decide) (br_f (by decide) (br_f (by decide) (br_f (by decide) (br_f (by decide) (br_f (by decide) (br_f (by decide) (br_f (by decide) (br_f (by decide) (br_f (by decide) (br_t rfl (?_)))))))))))))))))
  exact h
theorem xh_15 {post : SX → Prop} (hp : p < 80) (hc : c p = 15) (h : wpX_goOn post (xT, tr, ep, ind, vc, pc, xD, xE, nI p, tu, ca, c, a, nm, nv, ps, pst, psk, jm, cp, stk, em, ce, rp, ct, cm) 15) : wpX_carryOut post (xT, tr, ep, ind, vc, pc, xD, xE, nI p, tu, ca, c, a, nm, nv, ps, pst, psk, jm, cp, stk, em, ce, rp, ct, cm) := by
  refine ⟨vp_in_nI (n := p) hp (by decide), ?_⟩
  rw [nI_clamp (n := p) (by omega), hc]
  refine nm_e ?_
  refine br_f (by decide) (br_t (by decide) ?_)
  exact h
theorem xh_16 {post : SX → Prop} (hp : p < 80) (hc : c p = 16) (h : wpX_goOn post (xT, tr, ep, ind, vc, pc, xD, xE, nI p, tu, ca, c, a, nm, nv, ps, pst, psk, jm, cp, stk, em, ce, rp, ct, cm) 16) : wpX_carryOut post (xT, tr, ep, ind, vc, pc, xD, xE, nI p, tu, ca, c, a, nm, nv, ps, pst, psk, jm, cp, stk, em, ce, rp, ct, cm) := by
  refine ⟨vp_in_nI (n := p) hp (by decide), ?_⟩
  rw [nI_clamp (n := p) (by omega), hc]
  refine nm_e ?_
  refine br_f (by decide) (br_t (by decide) ?_)
  exact h
theorem xh_17 {post : SX → Prop} (hp : p < 80) (hc : c p = 17) (h : wpX_goOn post (xT, tr, ep, ind, vc, pc, xD, xE, nI p, tu, ca, c, a, nm, nv, ps, pst, psk, jm, cp, stk, em, ce, rp, ct, cm) 17) : wpX_carryOut post (xT, tr, ep, ind, vc, pc, xD, xE, nI p, tu, ca, c, a, nm, nv, ps, pst, psk, jm, cp, stk, em, ce, rp, ct, cm) := by
  refine ⟨vp_in_nI (n := p) hp (by decide), ?_⟩
  rw [nI_clamp (n := p) (by omega), hc]
  refine nm_e ?_
  refine br_f (by decide) (br_t (by decide) ?_)
  exact h
theorem xh_18 {post : SX → Prop} (hp : p < 80) (hc : c p = 18) (h : wpX_goOn post (xT, tr, ep, ind, vc, pc, xD, xE, nI p, tu, ca, c, a, nm, nv, ps, pst, psk, jm, cp, stk, em, ce, rp, ct, cm) 18) : wpX_carryOut post (xT, tr, ep, ind, vc, pc, xD, xE, nI p, tu, ca, c, a, nm, nv, ps, pst, psk, jm, cp, stk, em, ce, rp, ct, cm) := by
  refine ⟨vp_in_nI (n := p) hp (by decide), ?_⟩
  rw [nI_clamp (n := p) (by omega), hc]
  refine nm_e ?_
  refine br_f (by decide) (br_t (by decide) ?_)
  exact h
theorem xh_19 {post : SX → Prop} (hp : p < 80) (hc : c p = 19) (h : wpX_goOn post (xT, tr, ep, ind, vc, pc, xD, xE, nI p, tu, ca, c, a, nm, nv, ps, pst, psk, jm, cp, stk, em, ce, rp, ct, cm) 19) : wpX_carryOut post (xT, tr, ep, ind, vc, pc, xD, xE, nI p, tu, ca, c, a, nm, nv, ps, pst, psk, jm, cp, stk, em, ce, rp, ct, cm) := by
  refine ⟨vp_in_nI (n := p) hp (by decide), ?_⟩
  rw [nI_clamp (n := p) (by omega), hc]
  refine nm_e ?_
  refine br_f (by decide) (br_t (by decide) ?_)
  exact h
theorem xh_20 {post : SX → Prop} (hp : p < 80) (hc : c p = 20) (h : wpX_goOn post (xT, tr, ep, ind, vc, pc, xD, xE, nI p, tu, ca, c, a, nm, nv, ps, pst, psk, jm, cp, stk, em, ce, rp, ct, cm) 20) : wpX_carryOut post (xT, tr, ep, ind, vc, pc, xD, xE, nI p, tu, ca, c, a, nm, nv, ps, pst, psk, jm, cp, stk, em, ce, rp, ct, cm) := by
  refine ⟨vp_in_nI (n := p) hp (by decide), ?_⟩
  rw [nI_clamp (n := p) (by omega), hc]
  refine nm_e ?_
  refine br_f (by decide) (br_t (by decide) ?_)
  exact h
theorem xh_21 {post : SX → Prop} (hp : p < 80) (hc : c p = 21) (h : wpX_goOn post (xT, tr, ep, ind, vc, pc, xD, xE, nI p, tu, ca, c, a, nm, nv, ps, pst, psk, jm, cp, stk, em, ce, rp, ct, cm) 21) : wpX_carryOut post (xT, tr, ep, ind, vc, pc, xD, xE, nI p, tu, ca, c, a, nm, nv, ps, pst, psk, jm, cp, stk, em, ce, rp, ct, cm) := by
  refine ⟨vp_in_nI (n := p) hp (by decide), ?_⟩
  rw [nI_clamp (n := p) (by omega), hc]
  refine nm_e ?_
  refine br_f (by decide) (br_t (by decide) ?_)
  exact h
theorem xh_22 {post : SX → Prop} (hp : p < 80) (hc : c p = 22) (h : wpX_goOn post (xT, tr, ep, ind, vc, pc, xD, xE, nI p, tu, ca, c, a, nm, nv, ps, pst, psk, jm, cp, stk, em, ce, rp, ct, cm) 22) : wpX_carryOut post (xT, tr, ep, ind, vc, pc, xD, xE, nI p, tu, ca, c, a, nm, nv, ps, pst, psk, jm, cp, stk, em, ce, rp, ct, cm) := by
  refine ⟨vp_in_nI (n := p) hp (by decide), ?_⟩
  rw [nI_clamp (n := p) (by omega), hc]
  refine nm_e ?_
  refine br_f (by decide) (br_t (by decide) ?_)
  exact h
theorem xh_23 {post : SX → Prop} (hp : p < 80) (hc : c p = 23) (h : wpX_goOn post (xT, tr, ep, ind, vc, pc, xD, xE, nI p, tu, ca, c, a, nm, nv, ps, pst, psk, jm, cp, stk, em, ce, rp, ct, cm) 23) : wpX_carryOut post (xT, tr, ep, ind, vc, pc, xD, xE, nI p, tu, ca, c, a, nm, nv, ps, pst, psk, jm, cp, stk, em, ce, rp, ct, cm) := by
  refine ⟨vp_in_nI (n := p) hp (by decide), ?_⟩
  rw [nI_clamp (n := p) (by omega), hc]
  refine nm_e ?_
  refine br_f (by decide) (br_t (by decide) ?_)
  exact h
theorem xh_24 {post : SX → Prop} (hp : p < 80) (hc : c p = 24) (h : wpX_goOn post (xT, tr, ep, ind, vc, pc, xD, xE, nI p, tu, ca, c, a, nm, nv, ps, pst, psk, jm, cp, stk, em, ce, rp, ct, cm) 24) : wpX_carryOut post (xT, tr, ep, ind, vc, pc, xD, xE, nI p, tu, ca, c, a, nm, nv, ps, pst, psk, jm, cp, stk, em, ce, rp, ct, cm) := by
  refine ⟨vp_in_nI (n := p) hp (by decide), ?_⟩
  rw [nI_clamp (n := p) (by omega), hc]
  refine nm_e ?_
  refine br_f (by decide) (br_t (by decide) ?_)
  exact h
theorem xh_25 {post : SX → Prop} (hp : p < 80) (hc : c p = 25) (h : wpX_goOn post (xT, tr, ep, ind, vc, pc, xD, xE, nI p, tu, ca, c, a, nm, nv, ps, pst, psk, jm, cp, stk, em, ce, rp, ct, cm) 25) : wpX_carryOut post (xT, tr, ep, ind, vc, pc, xD, xE, nI p, tu, ca, c, a, nm, nv, ps, pst, psk, jm, cp, stk, em, ce, rp, ct, cm) := by
  refine ⟨vp_in_nI (n := p) hp (by decide), ?_⟩
  rw [nI_clamp (n := p) (by omega), hc]
  refine nm_e ?_
  refine br_f (by decide) (br_t (by decide) ?_)
  exact h
theorem xh_27 {post : SX → Prop} (hp : p < 80) (hc : c p = 27) (h : wpX_goOn post (xT, tr, ep, ind, vc, pc, xD, xE, nI p, tu, ca, c, a, nm, nv, ps, pst, psk, jm, cp, stk, em, ce, rp, ct, cm) 27) : wpX_carryOut post (xT, tr, ep, ind, vc, pc, xD, xE, nI p, tu, ca, c, a, nm, nv, ps, pst, psk, jm, cp, stk, em, ce, rp, ct, cm) := by
  refine ⟨vp_in_nI (n := p) hp (by decide), ?_⟩
  rw [nI_clamp (n := p) (by omega), hc]
  refine nm_e ?_
  refine br_f (by decide) (br_t (by decide) ?_)
  exact h
theorem xc_1 {post : SX → Prop} (hp : p < 80) (hc : c p = 1) (hD : D + 2 ≤ 16) (h : post (xT, tr, ep, ind, vc, pc, nI (D + 1), nI E, nI (p + 1), nI t, nI (l + 1), c, a, nm, nv, ps, pst, psk, jm, cp, upd stk D (stk D + stk (D + 1)), em, ce, rp, ct, cm)) : wpX_carryOut post (xT, tr, ep, ind, vc, pc, nI (D + 2), nI E, nI p, nI t, nI (l + 1), c, a, nm, nv, ps, pst, psk, jm, cp, stk, em, ce, rp, ct, cm) := by
  refine xh_1 hp hc ?_
  unfold wX_carryOut_110
  refine sx_calc (x := 1) hD (fun _ h => sx_rs1 h) ?_
  exact nm_r (nI_1 p) h
theorem xc_2 {post : SX → Prop} (hp : p < 80) (hc : c p = 2) (hD : D + 2 ≤ 16) (h : post (xT, tr, ep, ind, vc, pc, nI (D + 1), nI E, nI (p + 1), nI t, nI (l + 1), c, a, nm, nv, ps, pst, psk, jm, cp, upd stk D (stk D - stk (D + 1)), em, ce, rp, ct, cm)) : wpX_carryOut post (xT, tr, ep, ind, vc, pc, nI (D + 2), nI E, nI p, nI t, nI (l + 1), c, a, nm, nv, ps, pst, psk, jm, cp, stk, em, ce, rp, ct, cm) := by
  refine xh_2 hp hc ?_
  unfold wX_carryOut_110
  refine sx_calc (x := 2) hD (fun _ h => sx_rs2 h) ?_
  exact nm_r (nI_1 p) h
theorem xc_3 {post : SX → Prop} (hp : p < 80) (hc : c p = 3) (hD : D + 2 ≤ 16) (h : post (xT, tr, ep, ind, vc, pc, nI (D + 1), nI E, nI (p + 1), nI t, nI (l + 1), c, a, nm, nv, ps, pst, psk, jm, cp, upd stk D (stk D * stk (D + 1)), em, ce, rp, ct, cm)) : wpX_carryOut post (xT, tr, ep, ind, vc, pc, nI (D + 2), nI E, nI p, nI t, nI (l + 1), c, a, nm, nv, ps, pst, psk, jm, cp, stk, em, ce, rp, ct, cm) := by
  refine xh_3 hp hc ?_
  unfold wX_carryOut_110
  refine sx_calc (x := 3) hD (fun _ h => sx_rs3 h) ?_
  exact nm_r (nI_1 p) h
theorem xc_4 {post : SX → Prop} (hp : p < 80) (hc : c p = 4) (hD : D + 2 ≤ 16) (hy : ¬ stk (D + 1) = 0) (h : post (xT, tr, ep, ind, vc, pc, nI (D + 1), nI E, nI (p + 1), nI t, nI (l + 1), c, a, nm, nv, ps, pst, psk, jm, cp, upd stk D (stk D / stk (D + 1)), em, ce, rp, ct, cm)) : wpX_carryOut post (xT, tr, ep, ind, vc, pc, nI (D + 2), nI E, nI p, nI t, nI (l + 1), c, a, nm, nv, ps, pst, psk, jm, cp, stk, em, ce, rp, ct, cm) := by
  refine xh_4 hp hc ?_
  unfold wX_carryOut_110
  refine sx_calc (x := 4) hD (fun _ h => sx_rs4 hy h) ?_
  exact nm_r (nI_1 p) h
theorem xc_10 {post : SX → Prop} (hp : p < 80) (hc : c p = 10) (hD : D + 2 ≤ 16) (h : post (xT, tr, ep, ind, vc, pc, nI (D + 1), nI E, nI (p + 1), nI t, nI (l + 1), c, a, nm, nv, ps, pst, psk, jm, cp, upd stk D ((if stk D = stk (D + 1) then (1 : Int32) else 0)), em, ce, rp, ct, cm)) : wpX_carryOut post (xT, tr, ep, ind, vc, pc, nI (D + 2), nI E, nI p, nI t, nI (l + 1), c, a, nm, nv, ps, pst, psk, jm, cp, stk, em, ce, rp, ct, cm) := by
  refine xh_10 hp hc ?_
  unfold wX_carryOut_110
  refine sx_calc (x := 10) hD (fun _ h => sx_rs10 h) ?_
  exact nm_r (nI_1 p) h
theorem xc_11 {post : SX → Prop} (hp : p < 80) (hc : c p = 11) (hD : D + 2 ≤ 16) (h : post (xT, tr, ep, ind, vc, pc, nI (D + 1), nI E, nI (p + 1), nI t, nI (l + 1), c, a, nm, nv, ps, pst, psk, jm, cp, upd stk D ((if stk (D + 1) ≤ stk D then (0 : Int32) else 1)), em, ce, rp, ct, cm)) : wpX_carryOut post (xT, tr, ep, ind, vc, pc, nI (D + 2), nI E, nI p, nI t, nI (l + 1), c, a, nm, nv, ps, pst, psk, jm, cp, stk, em, ce, rp, ct, cm) := by
  refine xh_11 hp hc ?_
  unfold wX_carryOut_110
  refine sx_calc (x := 11) hD (fun _ h => sx_rs11 h) ?_
  exact nm_r (nI_1 p) h
theorem xc_5 {post : SX → Prop} (hp : p < 80) (hc : c p = 5) (hD : D + 2 ≤ 16) (h : post (xT, tr, ep, ind, vc, pc, nI (D + 2), nI E, nI (p + 1), nI t, nI (l + 1), c, a, nm, nv, ps, pst, psk, jm, cp, upd stk (D + 1) (stk D), em, ce, rp, ct, cm)) : wpX_carryOut post (xT, tr, ep, ind, vc, pc, nI (D + 1), nI E, nI p, nI t, nI (l + 1), c, a, nm, nv, ps, pst, psk, jm, cp, stk, em, ce, rp, ct, cm) := by
  refine xh_5 hp hc ?_
  unfold wX_carryOut_128
  refine sx_re5 hD ?_
  exact nm_r (nI_1 p) h
theorem xc_6 {post : SX → Prop} (hp : p < 80) (hc : c p = 6)  (h : post (xT, tr, ep, ind, vc, pc, nI (D), nI E, nI (p + 1), nI t, nI (l + 1), c, a, nm, nv, ps, pst, psk, jm, cp, stk, em, ce, rp, ct, cm)) : wpX_carryOut post (xT, tr, ep, ind, vc, pc, nI (D + 1), nI E, nI p, nI t, nI (l + 1), c, a, nm, nv, ps, pst, psk, jm, cp, stk, em, ce, rp, ct, cm) := by
  refine xh_6 hp hc ?_
  unfold wX_carryOut_128
  refine sx_re6 ?_
  exact nm_r (nI_1 p) h
theorem xc_7 {post : SX → Prop} (hp : p < 80) (hc : c p = 7) (hD : D + 2 ≤ 16) (h : post (xT, tr, ep, ind, vc, pc, nI (D + 2), nI E, nI (p + 1), nI t, nI (l + 1), c, a, nm, nv, ps, pst, psk, jm, cp, upd (upd stk D (stk (D + 1))) (D + 1) (stk D), em, ce, rp, ct, cm)) : wpX_carryOut post (xT, tr, ep, ind, vc, pc, nI (D + 2), nI E, nI p, nI t, nI (l + 1), c, a, nm, nv, ps, pst, psk, jm, cp, stk, em, ce, rp, ct, cm) := by
  refine xh_7 hp hc ?_
  unfold wX_carryOut_128
  refine sx_re7 hD ?_
  exact nm_r (nI_1 p) h
theorem xc_8 {post : SX → Prop} (hp : p < 80) (hc : c p = 8) (hD : D + 3 ≤ 16) (h : post (xT, tr, ep, ind, vc, pc, nI (D + 3), nI E, nI (p + 1), nI t, nI (l + 1), c, a, nm, nv, ps, pst, psk, jm, cp, upd stk (D + 2) (stk D), em, ce, rp, ct, cm)) : wpX_carryOut post (xT, tr, ep, ind, vc, pc, nI (D + 2), nI E, nI p, nI t, nI (l + 1), c, a, nm, nv, ps, pst, psk, jm, cp, stk, em, ce, rp, ct, cm) := by
  refine xh_8 hp hc ?_
  unfold wX_carryOut_128
  refine sx_re8 hD ?_
  exact nm_r (nI_1 p) h
theorem xc_9 {post : SX → Prop} (hp : p < 80) (hc : c p = 9) (hD : D + 3 ≤ 16) (h : post (xT, tr, ep, ind, vc, pc, nI (D + 3), nI E, nI (p + 1), nI t, nI (l + 1), c, a, nm, nv, ps, pst, psk, jm, cp, upd (upd (upd stk D (stk (D + 1))) (D + 1) (stk (D + 2))) (D + 2) (stk D), em, ce, rp, ct, cm)) : wpX_carryOut post (xT, tr, ep, ind, vc, pc, nI (D + 3), nI E, nI p, nI t, nI (l + 1), c, a, nm, nv, ps, pst, psk, jm, cp, stk, em, ce, rp, ct, cm) := by
  refine xh_9 hp hc ?_
  unfold wX_carryOut_128
  refine sx_re9 hD ?_
  exact nm_r (nI_1 p) h
theorem xc_12 {post : SX → Prop} (hp : p < 80) (hc : c p = 12) {n : Nat} (hn : n < 12) (hD : D < 16) (e : stk D = nI n) (h : post (xT, tr, ep, ind, vc, pc, nI (D + 1), nI E, nI (p + 1), nI t, nI (l + 1), c, a, nm, nv, ps, pst, psk, jm, cp, upd stk D (ce n), em, ce, rp, ct, cm)) : wpX_carryOut post (xT, tr, ep, ind, vc, pc, nI (D + 1), nI E, nI p, nI t, nI (l + 1), c, a, nm, nv, ps, pst, psk, jm, cp, stk, em, ce, rp, ct, cm) := by
  refine xh_12 hp hc ?_
  unfold wX_carryOut_146
  refine sx_mv12 hn hD e ?_
  exact nm_r (nI_1 p) h
theorem xc_13 {post : SX → Prop} (hp : p < 80) (hc : c p = 13) {n : Nat} (hn : n < 12) (hD : D + 2 ≤ 16) (e : stk (D + 1) = nI n) (h : post (xT, tr, ep, ind, vc, pc, nI (D), nI E, nI (p + 1), nI t, nI (l + 1), c, a, nm, nv, ps, pst, psk, jm, cp, stk, em, upd ce n (stk D), rp, ct, cm)) : wpX_carryOut post (xT, tr, ep, ind, vc, pc, nI (D + 2), nI E, nI p, nI t, nI (l + 1), c, a, nm, nv, ps, pst, psk, jm, cp, stk, em, ce, rp, ct, cm) := by
  refine xh_13 hp hc ?_
  unfold wX_carryOut_146
  refine sx_mv13 hn hD e ?_
  exact nm_r (nI_1 p) h
theorem xc_14 {post : SX → Prop} (hp : p < 80) (hc : c p = 14) (hE : E < 16) (hD : D < 16) (h : post (xT, tr, ep, ind, vc, pc, nI (D), nI (E + 1), nI (p + 1), nI t, nI (l + 1), c, a, nm, nv, ps, pst, psk, jm, cp, stk, upd em E (stk D), ce, rp, ct, cm)) : wpX_carryOut post (xT, tr, ep, ind, vc, pc, nI (D + 1), nI E, nI p, nI t, nI (l + 1), c, a, nm, nv, ps, pst, psk, jm, cp, stk, em, ce, rp, ct, cm) := by
  refine xh_14 hp hc ?_
  unfold wX_carryOut_146
  refine sx_mv14 hE hD ?_
  exact nm_r (nI_1 p) h
theorem xc_15V {post : SX → Prop} (hp : p < 80) (hc : c p = 15) {n : Nat} (hn : n < 12) (ha : a p = nI n) (hD : D < 16) (e : nm n = 2) (h : post (xT, tr, ep, ind, vc, pc, nI (D + 1), nI E, nI (p + 1), nI t, nI (l + 1), c, a, nm, nv, ps, pst, psk, jm, cp, upd stk D (nv n), em, ce, rp, ct, cm)) : wpX_carryOut post (xT, tr, ep, ind, vc, pc, nI (D), nI E, nI p, nI t, nI (l + 1), c, a, nm, nv, ps, pst, psk, jm, cp, stk, em, ce, rp, ct, cm) := by
  refine xh_15 hp hc ?_
  refine sx_go15 hp ?_
  rw [ha]
  exact sx_unV hn hD e h
theorem xc_15W {post : SX → Prop} (hp : p < 80) (hc : c p = 15) {n : Nat} (hn : n < 12) (ha : a p = nI n) (hl : l < 7) (e : ¬ nm n = 2) (h : post (xT, tr, ep, ind, vc, pc, nI (D), nI E, nv n, nI (t + 1), nI (l + 2), c, a, nm, nv, ps, pst, psk, jm, cp, stk, em, ce, upd rp (l + 1) (nI (p + 1)), ct, cm)) : wpX_carryOut post (xT, tr, ep, ind, vc, pc, nI (D), nI E, nI p, nI t, nI (l + 1), c, a, nm, nv, ps, pst, psk, jm, cp, stk, em, ce, rp, ct, cm) := by
  refine xh_15 hp hc ?_
  refine sx_go15 hp ?_
  rw [ha]
  exact sx_unW (l := l + 1) hn (by omega) e h
theorem xc_16T {post : SX → Prop} (hp : p < 80) (hc : c p = 16) {b : Int32} (hD : D < 16) (hz : stk D = 0) (e : jm p = b) (h : post (xT, tr, ep, ind, vc, pc, nI (D), nI E, b, nI t, nI (l + 1), c, a, nm, nv, ps, pst, psk, jm, cp, stk, em, ce, rp, ct, cm)) : wpX_carryOut post (xT, tr, ep, ind, vc, pc, nI (D + 1), nI E, nI p, nI t, nI (l + 1), c, a, nm, nv, ps, pst, psk, jm, cp, stk, em, ce, rp, ct, cm) := by
  refine xh_16 hp hc ?_
  refine sx_go16 ?_
  exact sx_84T hp hD hz e h
theorem xc_16F {post : SX → Prop} (hp : p < 80) (hc : c p = 16) (hD : D < 16) (hz : ¬ stk D = 0) (h : post (xT, tr, ep, ind, vc, pc, nI (D), nI E, nI (p + 1), nI t, nI (l + 1), c, a, nm, nv, ps, pst, psk, jm, cp, stk, em, ce, rp, ct, cm)) : wpX_carryOut post (xT, tr, ep, ind, vc, pc, nI (D + 1), nI E, nI p, nI t, nI (l + 1), c, a, nm, nv, ps, pst, psk, jm, cp, stk, em, ce, rp, ct, cm) := by
  refine xh_16 hp hc ?_
  refine sx_go16 ?_
  exact sx_84F hD hz h
theorem xc_21T {post : SX → Prop} (hp : p < 80) (hc : c p = 21) {b : Int32} (hD : D < 16) (hz : stk D = 0) (e : jm p = b) (h : post (xT, tr, ep, ind, vc, pc, nI (D), nI E, b, nI t, nI (l + 1), c, a, nm, nv, ps, pst, psk, jm, cp, stk, em, ce, rp, ct, cm)) : wpX_carryOut post (xT, tr, ep, ind, vc, pc, nI (D + 1), nI E, nI p, nI t, nI (l + 1), c, a, nm, nv, ps, pst, psk, jm, cp, stk, em, ce, rp, ct, cm) := by
  refine xh_21 hp hc ?_
  refine sx_go21 ?_
  exact sx_84T hp hD hz e h
theorem xc_21F {post : SX → Prop} (hp : p < 80) (hc : c p = 21) (hD : D < 16) (hz : ¬ stk D = 0) (h : post (xT, tr, ep, ind, vc, pc, nI (D), nI E, nI (p + 1), nI t, nI (l + 1), c, a, nm, nv, ps, pst, psk, jm, cp, stk, em, ce, rp, ct, cm)) : wpX_carryOut post (xT, tr, ep, ind, vc, pc, nI (D + 1), nI E, nI p, nI t, nI (l + 1), c, a, nm, nv, ps, pst, psk, jm, cp, stk, em, ce, rp, ct, cm) := by
  refine xh_21 hp hc ?_
  refine sx_go21 ?_
  exact sx_84F hD hz h
theorem xc_17 {post : SX → Prop} (hp : p < 80) (hc : c p = 17) {b : Int32} (e : jm p = b) (h : post (xT, tr, ep, ind, vc, pc, nI (D), nI E, b, nI t, nI (l + 1), c, a, nm, nv, ps, pst, psk, jm, cp, stk, em, ce, rp, ct, cm)) : wpX_carryOut post (xT, tr, ep, ind, vc, pc, nI (D), nI E, nI p, nI t, nI (l + 1), c, a, nm, nv, ps, pst, psk, jm, cp, stk, em, ce, rp, ct, cm) := by
  refine xh_17 hp hc ?_
  exact sx_go17 hp e h
theorem xc_18 {post : SX → Prop} (hp : p < 80) (hc : c p = 18)  (h : post (xT, tr, ep, ind, vc, pc, nI (D), nI E, nI (p + 1), nI t, nI (l + 1), c, a, nm, nv, ps, pst, psk, jm, cp, stk, em, ce, rp, ct, cm)) : wpX_carryOut post (xT, tr, ep, ind, vc, pc, nI (D), nI E, nI p, nI t, nI (l + 1), c, a, nm, nv, ps, pst, psk, jm, cp, stk, em, ce, rp, ct, cm) := by
  refine xh_18 hp hc ?_
  exact sx_go18 h
theorem xc_19 {post : SX → Prop} (hp : p < 80) (hc : c p = 19)  (h : post (xT, tr, ep, ind, vc, pc, nI (D), nI E, nI (p + 1), nI t, nI (l + 1), c, a, nm, nv, ps, pst, psk, jm, cp, stk, em, ce, rp, ct, cm)) : wpX_carryOut post (xT, tr, ep, ind, vc, pc, nI (D), nI E, nI p, nI t, nI (l + 1), c, a, nm, nv, ps, pst, psk, jm, cp, stk, em, ce, rp, ct, cm) := by
  refine xh_19 hp hc ?_
  exact sx_go19 h
theorem xc_20T {post : SX → Prop} (hp : p < 80) (hc : c p = 20) {b : Int32} (hD : D < 16) (hz : stk D = 0) (e : jm p = b) (h : post (xT, tr, ep, ind, vc, pc, nI (D), nI E, b, nI (t + 1), nI (l + 1), c, a, nm, nv, ps, pst, psk, jm, cp, stk, em, ce, rp, ct, cm)) : wpX_carryOut post (xT, tr, ep, ind, vc, pc, nI (D + 1), nI E, nI p, nI t, nI (l + 1), c, a, nm, nv, ps, pst, psk, jm, cp, stk, em, ce, rp, ct, cm) := by
  refine xh_20 hp hc ?_
  refine sx_go20 ?_
  exact sx_untT hp hD hz e h
theorem xc_20F {post : SX → Prop} (hp : p < 80) (hc : c p = 20) (hD : D < 16) (hz : ¬ stk D = 0) (h : post (xT, tr, ep, ind, vc, pc, nI (D), nI E, nI (p + 1), nI t, nI (l + 1), c, a, nm, nv, ps, pst, psk, jm, cp, stk, em, ce, rp, ct, cm)) : wpX_carryOut post (xT, tr, ep, ind, vc, pc, nI (D + 1), nI E, nI p, nI t, nI (l + 1), c, a, nm, nv, ps, pst, psk, jm, cp, stk, em, ce, rp, ct, cm) := by
  refine xh_20 hp hc ?_
  refine sx_go20 ?_
  exact sx_untF hD hz h
theorem xc_22 {post : SX → Prop} (hp : p < 80) (hc : c p = 22) {b : Int32} (e : jm p = b) (h : post (xT, tr, ep, ind, vc, pc, nI (D), nI E, b, nI (t + 1), nI (l + 1), c, a, nm, nv, ps, pst, psk, jm, cp, stk, em, ce, rp, ct, cm)) : wpX_carryOut post (xT, tr, ep, ind, vc, pc, nI (D), nI E, nI p, nI t, nI (l + 1), c, a, nm, nv, ps, pst, psk, jm, cp, stk, em, ce, rp, ct, cm) := by
  refine xh_22 hp hc ?_
  refine sx_go22 ?_
  exact sx_tback hp e h
theorem xc_23T {post : SX → Prop} (hp : p < 80) (hc : c p = 23) {m : Nat} (hD : D < 16) (hz : 0 < stk D) (e : cp p = nI m) (hm : l * 6 + m < 48) (h : post (xT, tr, ep, ind, vc, pc, nI (D), nI E, nI (p + 1), nI t, nI (l + 1), c, a, nm, nv, ps, pst, psk, jm, cp, stk, em, ce, rp, upd ct (l * 6 + m) 0, upd cm (l * 6 + m) (stk D))) : wpX_carryOut post (xT, tr, ep, ind, vc, pc, nI (D + 1), nI E, nI p, nI t, nI (l + 1), c, a, nm, nv, ps, pst, psk, jm, cp, stk, em, ce, rp, ct, cm) := by
  refine xh_23 hp hc ?_
  refine sx_go23 ?_
  exact sx_scT hp hD hz e hm h
theorem xc_23F {post : SX → Prop} (hp : p < 80) (hc : c p = 23) {b : Int32} (hD : D < 16) (hz : ¬ 0 < stk D) (e : jm p = b) (h : post (xT, tr, ep, ind, vc, pc, nI (D), nI E, b, nI t, nI (l + 1), c, a, nm, nv, ps, pst, psk, jm, cp, stk, em, ce, rp, ct, cm)) : wpX_carryOut post (xT, tr, ep, ind, vc, pc, nI (D + 1), nI E, nI p, nI t, nI (l + 1), c, a, nm, nv, ps, pst, psk, jm, cp, stk, em, ce, rp, ct, cm) := by
  refine xh_23 hp hc ?_
  refine sx_go23 ?_
  exact sx_scF hp hD hz e h
theorem xc_24T {post : SX → Prop} (hp : p < 80) (hc : c p = 24) {m : Nat} (e : cp p = nI m) (hm : l * 6 + m < 48) (hk : cm (l * 6 + m) ≤ ct (l * 6 + m) + 1) (h : post (xT, tr, ep, ind, vc, pc, nI (D), nI E, nI (p + 1), nI (t + 1), nI (l + 1), c, a, nm, nv, ps, pst, psk, jm, cp, stk, em, ce, rp, upd ct (l * 6 + m) (ct (l * 6 + m) + 1), cm)) : wpX_carryOut post (xT, tr, ep, ind, vc, pc, nI (D), nI E, nI p, nI t, nI (l + 1), c, a, nm, nv, ps, pst, psk, jm, cp, stk, em, ce, rp, ct, cm) := by
  refine xh_24 hp hc ?_
  refine sx_go24 ?_
  exact sx_acT hp e hm hk h
theorem xc_24F {post : SX → Prop} (hp : p < 80) (hc : c p = 24) {m : Nat} {b : Int32} (e : cp p = nI m) (hm : l * 6 + m < 48) (hk : ¬ cm (l * 6 + m) ≤ ct (l * 6 + m) + 1) (ej : jm p = b) (h : post (xT, tr, ep, ind, vc, pc, nI (D), nI E, b, nI (t + 1), nI (l + 1), c, a, nm, nv, ps, pst, psk, jm, cp, stk, em, ce, rp, upd ct (l * 6 + m) (ct (l * 6 + m) + 1), cm)) : wpX_carryOut post (xT, tr, ep, ind, vc, pc, nI (D), nI E, nI p, nI t, nI (l + 1), c, a, nm, nv, ps, pst, psk, jm, cp, stk, em, ce, rp, ct, cm) := by
  refine xh_24 hp hc ?_
  refine sx_go24 ?_
  exact sx_acF hp e hm hk ej h
theorem xc_25 {post : SX → Prop} (hp : p < 80) (hc : c p = 25) {m : Nat} (hD : D < 16) (e : cp p = nI m) (hm : l * 6 + m < 48) (h : post (xT, tr, ep, ind, vc, pc, nI (D + 1), nI E, nI (p + 1), nI t, nI (l + 1), c, a, nm, nv, ps, pst, psk, jm, cp, upd stk D (ct (l * 6 + m)), em, ce, rp, ct, cm)) : wpX_carryOut post (xT, tr, ep, ind, vc, pc, nI (D), nI E, nI p, nI t, nI (l + 1), c, a, nm, nv, ps, pst, psk, jm, cp, stk, em, ce, rp, ct, cm) := by
  refine xh_25 hp hc ?_
  refine sx_go25 ?_
  exact sx_pc hp hD e hm h
theorem xc_27 {post : SX → Prop} (hp : p < 80) (hc : c p = 27) (hl : l < 8) (h : post (xT, tr, ep, ind, vc, pc, nI (D), nI E, rp l, nI t, nI l, c, a, nm, nv, ps, pst, psk, jm, cp, stk, em, ce, rp, ct, cm)) : wpX_carryOut post (xT, tr, ep, ind, vc, pc, nI (D), nI E, nI p, nI t, nI (l + 1), c, a, nm, nv, ps, pst, psk, jm, cp, stk, em, ce, rp, ct, cm) := by
  refine xh_27 hp hc ?_
  refine sx_go27 ?_
  exact sx_ec hl h
end
end
section
section
variable {yT tr ep yD yE lv yt : Int32} {c a stk em ce po yc ye : Nat → Int32}
variable {T D E p t l : Nat}
theorem sy_dr {post : SY → Prop} (k : Nat) (hD : D + k ≤ 16) (h : post (yT, tr, ep, nI D, yE, lv, yt, c, a, stk, em, ce, po, yc, ye)) : wpY_drop post (yT, tr, ep, nI (D + k), yE, lv, yt, c, a, stk, em, ce, po, yc, ye) (nI k) :=
  sy_drop hD (by omega) (by rw [Nat.add_sub_cancel]; exact h)
theorem sy_wk1 {post : Int32 → Prop} {x y : Int32} (h : post (x + y)) : wpY_worked post 1 x y := br_t rfl h
theorem sy_wk2 {post : Int32 → Prop} {x y : Int32} (h : post (x - y)) : wpY_worked post 2 x y := br_f (by decide) (br_t rfl h)
theorem sy_wk3 {post : Int32 → Prop} {x y : Int32} (h : post (x * y)) : wpY_worked post 3 x y := br_f (by decide) (br_f (by decide) (br_t rfl h))
theorem sy_wk4 {post : Int32 → Prop} {x y : Int32} (hy : ¬ y = 0) (h : post (x / y)) : wpY_worked post 4 x y := by
  refine br_f (by decide) (br_f (by decide) (br_f (by decide) (br_f (by decide) (br_f (by decide) (br_f hy ⟨sk_0i y hy, nm_e ?_⟩)))))
  rw [sk_divL]; exact h
theorem sy_wk10 {post : Int32 → Prop} {x y : Int32} (h : post (if x = y then (1 : Int32) else 0)) : wpY_worked post 10 x y := by
  refine br_f (by decide) (br_f (by decide) (br_f (by decide) (br_t rfl ?_)))
  by_cases e : x = y
  · rw [if_pos e] at h; exact br_t e h
  · rw [if_neg e] at h; exact br_f e h
theorem sy_wk11 {post : Int32 → Prop} {x y : Int32} (h : post (if y ≤ x then (0 : Int32) else 1)) : wpY_worked post 11 x y := by
  refine br_f (by decide) (br_f (by decide) (br_f (by decide) (br_f (by decide) (br_t rfl ?_))))
  by_cases e : y ≤ x
  · rw [if_pos e] at h; exact br_t e h
  · rw [if_neg e] at h; exact br_f e h
theorem yp_0 {post : SY → Prop} (hp : p < 80) (hc : c p = 0) (hD : D < 16) (h : post (nI T, tr, ep, nI (D + 1), nI E, nI l, nI t, c, a, upd stk D (a p), em, ce, po, yc, ye)) : wpY_plain post (nI T, tr, ep, nI (D), nI E, nI l, nI t, c, a, stk, em, ce, po, yc, ye) (nI p) := by
  refine ⟨vp_in_nI (n := p) hp (by decide), ?_⟩
  rw [nI_clamp (n := p) (by omega), hc]
  refine nm_e ?_
  refine sy_topz (j := 0) (by omega) (by omega) ?_
  intro z hz
  refine sy_topz (j := 1) (by omega) (by omega) ?_
  intro y hy
  refine sy_topz (j := 2) (by omega) (by omega) ?_
  intro x hx
  refine sy_tk0 ?_
  refine sy_dr (D := D) 0 (by omega) ?_
  refine br_t rfl ⟨vp_in_nI (n := p) hp (by decide), ?_⟩
  refine sy_push hD ?_
  exact br_t (by decide) (br_f (by decide) (br_f (by decide) (br_f (by decide) (br_f (by decide) (br_f (by decide) (br_f (by decide) (br_f (by decide) (br_f (by decide) (br_f (by decide) (br_f (by decide) (br_f (by decide) (br_f (by decide) h))))))))))))
theorem yp_1 {post : SY → Prop} (hp : p < 80) (hc : c p = 1) (hD : D + 2 ≤ 16) (h : post (nI T, tr, ep, nI (D + 1), nI E, nI l, nI t, c, a, upd stk D (stk D + stk (D + 1)), em, ce, po, yc, ye)) : wpY_plain post (nI T, tr, ep, nI (D + 2), nI E, nI l, nI t, c, a, stk, em, ce, po, yc, ye) (nI p) := by
  refine ⟨vp_in_nI (n := p) hp (by decide), ?_⟩
  rw [nI_clamp (n := p) (by omega), hc]
  refine nm_e ?_
  refine sy_topz (j := 0) (by omega) (by omega) ?_
  intro z hz
  have ez : z = stk (D + 1) := hz (by omega)
  subst ez
  refine sy_topz (j := 1) (by omega) (by omega) ?_
  intro y hy
  have ey : y = stk D := hy (by omega)
  subst ey
  refine sy_topz (j := 2) (by omega) (by omega) ?_
  intro x hx
  refine sy_tk1 ?_
  refine sy_dr (D := D) 2 (by omega) ?_
  refine br_f (by decide) (br_f (by decide) (br_t (by decide) ?_))
  unfold wY_plain_72
  refine sy_wk1 ?_
  refine sy_push (by omega) ?_
  exact br_f (by decide) (br_f (by decide) (br_f (by decide) (br_f (by decide) (br_f (by decide) (br_f (by decide) (br_f (by decide) (br_f (by decide) (br_f (by decide) (br_f (by decide) h)))))))))
theorem yp_2 {post : SY → Prop} (hp : p < 80) (hc : c p = 2) (hD : D + 2 ≤ 16) (h : post (nI T, tr, ep, nI (D + 1), nI E, nI l, nI t, c, a, upd stk D (stk D - stk (D + 1)), em, ce, po, yc, ye)) : wpY_plain post (nI T, tr, ep, nI (D + 2), nI E, nI l, nI t, c, a, stk, em, ce, po, yc, ye) (nI p) := by
  refine ⟨vp_in_nI (n := p) hp (by decide), ?_⟩
  rw [nI_clamp (n := p) (by omega), hc]
  refine nm_e ?_
  refine sy_topz (j := 0) (by omega) (by omega) ?_
  intro z hz
  have ez : z = stk (D + 1) := hz (by omega)
  subst ez
  refine sy_topz (j := 1) (by omega) (by omega) ?_
  intro y hy
  have ey : y = stk D := hy (by omega)
  subst ey
  refine sy_topz (j := 2) (by omega) (by omega) ?_
  intro x hx
  refine sy_tk2 ?_
  refine sy_dr (D := D) 2 (by omega) ?_
  refine br_f (by decide) (br_f (by decide) (br_t (by decide) ?_))
  unfold wY_plain_72
  refine sy_wk2 ?_
  refine sy_push (by omega) ?_
  exact br_f (by decide) (br_f (by decide) (br_f (by decide) (br_f (by decide) (br_f (by decide) (br_f (by decide) (br_f (by decide) (br_f (by decide) (br_f (by decide) (br_f (by decide) h)))))))))
theorem yp_3 {post : SY → Prop} (hp : p < 80) (hc : c p = 3) (hD : D + 2 ≤ 16) (h : post (nI T, tr, ep, nI (D + 1), nI E, nI l, nI t, c, a, upd stk D (stk D * stk (D + 1)), em, ce, po, yc, ye)) : wpY_plain post (nI T, tr, ep, nI (D + 2), nI E, nI l, nI t, c, a, stk, em, ce, po, yc, ye) (nI p) := by
  refine ⟨vp_in_nI (n := p) hp (by decide), ?_⟩
  rw [nI_clamp (n := p) (by omega), hc]
  refine nm_e ?_
  refine sy_topz (j := 0) (by omega) (by omega) ?_
  intro z hz
  have ez : z = stk (D + 1) := hz (by omega)
  subst ez
  refine sy_topz (j := 1) (by omega) (by omega) ?_
  intro y hy
  have ey : y = stk D := hy (by omega)
  subst ey
  refine sy_topz (j := 2) (by omega) (by omega) ?_
  intro x hx
  refine sy_tk3 ?_
  refine sy_dr (D := D) 2 (by omega) ?_
  refine br_f (by decide) (br_f (by decide) (br_t (by decide) ?_))
  unfold wY_plain_72
  refine sy_wk3 ?_
  refine sy_push (by omega) ?_
  exact br_f (by decide) (br_f (by decide) (br_f (by decide) (br_f (by decide) (br_f (by decide) (br_f (by decide) (br_f (by decide) (br_f (by decide) (br_f (by decide) (br_f (by decide) h)))))))))
theorem yp_4 {post : SY → Prop} (hp : p < 80) (hc : c p = 4) (hD : D + 2 ≤ 16) (hnz : ¬ stk (D + 1) = 0) (h : post (nI T, tr, ep, nI (D + 1), nI E, nI l, nI t, c, a, upd stk D (stk D / stk (D + 1)), em, ce, po, yc, ye)) : wpY_plain post (nI T, tr, ep, nI (D + 2), nI E, nI l, nI t, c, a, stk, em, ce, po, yc, ye) (nI p) := by
  refine ⟨vp_in_nI (n := p) hp (by decide), ?_⟩
  rw [nI_clamp (n := p) (by omega), hc]
  refine nm_e ?_
  refine sy_topz (j := 0) (by omega) (by omega) ?_
  intro z hz
  have ez : z = stk (D + 1) := hz (by omega)
  subst ez
  refine sy_topz (j := 1) (by omega) (by omega) ?_
  intro y hy
  have ey : y = stk D := hy (by omega)
  subst ey
  refine sy_topz (j := 2) (by omega) (by omega) ?_
  intro x hx
  refine sy_tk4 ?_
  refine sy_dr (D := D) 2 (by omega) ?_
  refine br_f (by decide) (br_f (by decide) (br_t (by decide) ?_))
  unfold wY_plain_72
  refine sy_wk4 hnz ?_
  refine sy_push (by omega) ?_
  exact br_f (by decide) (br_f (by decide) (br_f (by decide) (br_f (by decide) (br_f (by decide) (br_f (by decide) (br_f (by decide) (br_f (by decide) (br_f (by decide) (br_f (by decide) h)))))))))
theorem yp_10 {post : SY → Prop} (hp : p < 80) (hc : c p = 10) (hD : D + 2 ≤ 16) (h : post (nI T, tr, ep, nI (D + 1), nI E, nI l, nI t, c, a, upd stk D ((if stk D = stk (D + 1) then (1 : Int32) else 0)), em, ce, po, yc, ye)) : wpY_plain post (nI T, tr, ep, nI (D + 2), nI E, nI l, nI t, c, a, stk, em, ce, po, yc, ye) (nI p) := by
  refine ⟨vp_in_nI (n := p) hp (by decide), ?_⟩
  rw [nI_clamp (n := p) (by omega), hc]
  refine nm_e ?_
  refine sy_topz (j := 0) (by omega) (by omega) ?_
  intro z hz
  have ez : z = stk (D + 1) := hz (by omega)
  subst ez
  refine sy_topz (j := 1) (by omega) (by omega) ?_
  intro y hy
  have ey : y = stk D := hy (by omega)
  subst ey
  refine sy_topz (j := 2) (by omega) (by omega) ?_
  intro x hx
  refine sy_tk10 ?_
  refine sy_dr (D := D) 2 (by omega) ?_
  refine br_f (by decide) (br_f (by decide) (br_f (by decide) (br_t rfl ?_)))
  unfold wY_plain_72
  refine sy_wk10 ?_
  refine sy_push (by omega) ?_
  exact br_f (by decide) (br_f (by decide) (br_f (by decide) (br_f (by decide) (br_f (by decide) (br_f (by decide) (br_f (by decide) (br_f (by decide) (br_f (by decide) (br_f (by decide) h)))))))))
theorem yp_11 {post : SY → Prop} (hp : p < 80) (hc : c p = 11) (hD : D + 2 ≤ 16) (h : post (nI T, tr, ep, nI (D + 1), nI E, nI l, nI t, c, a, upd stk D ((if stk (D + 1) ≤ stk D then (0 : Int32) else 1)), em, ce, po, yc, ye)) : wpY_plain post (nI T, tr, ep, nI (D + 2), nI E, nI l, nI t, c, a, stk, em, ce, po, yc, ye) (nI p) := by
  refine ⟨vp_in_nI (n := p) hp (by decide), ?_⟩
  rw [nI_clamp (n := p) (by omega), hc]
  refine nm_e ?_
  refine sy_topz (j := 0) (by omega) (by omega) ?_
  intro z hz
  have ez : z = stk (D + 1) := hz (by omega)
  subst ez
  refine sy_topz (j := 1) (by omega) (by omega) ?_
  intro y hy
  have ey : y = stk D := hy (by omega)
  subst ey
  refine sy_topz (j := 2) (by omega) (by omega) ?_
  intro x hx
  refine sy_tk11 ?_
  refine sy_dr (D := D) 2 (by omega) ?_
  refine br_f (by decide) (br_f (by decide) (br_f (by decide) (br_f (by decide) (br_t rfl ?_))))
  unfold wY_plain_72
  refine sy_wk11 ?_
  refine sy_push (by omega) ?_
  exact br_f (by decide) (br_f (by decide) (br_f (by decide) (br_f (by decide) (br_f (by decide) (br_f (by decide) (br_f (by decide) (br_f (by decide) (br_f (by decide) (br_f (by decide) h)))))))))
theorem yp_5 {post : SY → Prop} (hp : p < 80) (hc : c p = 5) (hD : D + 2 ≤ 16) (h : post (nI T, tr, ep, nI (D + 2), nI E, nI l, nI t, c, a, upd stk (D + 1) (stk D), em, ce, po, yc, ye)) : wpY_plain post (nI T, tr, ep, nI (D + 1), nI E, nI l, nI t, c, a, stk, em, ce, po, yc, ye) (nI p) := by
  refine ⟨vp_in_nI (n := p) hp (by decide), ?_⟩
  rw [nI_clamp (n := p) (by omega), hc]
  refine nm_e ?_
  refine sy_topz (j := 0) (by omega) (by omega) ?_
  intro z hz
  have ez : z = stk D := hz (by omega)
  subst ez
  refine sy_topz (j := 1) (by omega) (by omega) ?_
  intro y hy
  refine sy_topz (j := 2) (by omega) (by omega) ?_
  intro x hx
  refine sy_tk5 ?_
  refine sy_dr (D := D) 1 (by omega) ?_
  refine br_f (by decide) (br_f (by decide) (br_f (by decide) (br_f (by decide) (br_f (by decide) ?_))))
  refine br_t rfl ?_
  unfold wY_plain_99
  refine sy_push (by omega) ?_
  rw [sk_us]
  refine br_t rfl ?_
  refine sy_push (by omega) ?_
  exact br_f (by decide) (br_f (by decide) (br_f (by decide) (br_f (by decide) (br_f (by decide) (br_f (by decide) (br_f (by decide) h))))))
theorem yp_6 {post : SY → Prop} (hp : p < 80) (hc : c p = 6) (hD : D < 16) (h : post (nI T, tr, ep, nI (D), nI E, nI l, nI t, c, a, stk, em, ce, po, yc, ye)) : wpY_plain post (nI T, tr, ep, nI (D + 1), nI E, nI l, nI t, c, a, stk, em, ce, po, yc, ye) (nI p) := by
  refine ⟨vp_in_nI (n := p) hp (by decide), ?_⟩
  rw [nI_clamp (n := p) (by omega), hc]
  refine nm_e ?_
  refine sy_topz (j := 0) (by omega) (by omega) ?_
  intro z hz
  have ez : z = stk D := hz (by omega)
  subst ez
  refine sy_topz (j := 1) (by omega) (by omega) ?_
  intro y hy
  refine sy_topz (j := 2) (by omega) (by omega) ?_
  intro x hx
  refine sy_tk6 ?_
  refine sy_dr (D := D) 1 (by omega) ?_
  exact br_f (by decide) (br_f (by decide) (br_f (by decide) (br_f (by decide) (br_f (by decide) (br_f (by decide) (br_f (by decide) (br_f (by decide) (br_f (by decide) (br_f (by decide) (br_f (by decide) (br_f (by decide) (br_f (by decide) (br_f (by decide) (br_f (by decide) h))))))))))))))
theorem yp_7 {post : SY → Prop} (hp : p < 80) (hc : c p = 7) (hD : D + 2 ≤ 16) (h : post (nI T, tr, ep, nI (D + 2), nI E, nI l, nI t, c, a, upd (upd stk D (stk (D + 1))) (D + 1) (stk D), em, ce, po, yc, ye)) : wpY_plain post (nI T, tr, ep, nI (D + 2), nI E, nI l, nI t, c, a, stk, em, ce, po, yc, ye) (nI p) := by
  refine ⟨vp_in_nI (n := p) hp (by decide), ?_⟩
  rw [nI_clamp (n := p) (by omega), hc]
  refine nm_e ?_
  refine sy_topz (j := 0) (by omega) (by omega) ?_
  intro z hz
  have ez : z = stk (D + 1) := hz (by omega)
  subst ez
  refine sy_topz (j := 1) (by omega) (by omega) ?_
  intro y hy
  have ey : y = stk D := hy (by omega)
  subst ey
  refine sy_topz (j := 2) (by omega) (by omega) ?_
  intro x hx
  refine sy_tk7 ?_
  refine sy_dr (D := D) 2 (by omega) ?_
  refine br_f (by decide) (br_f (by decide) (br_f (by decide) (br_f (by decide) (br_f (by decide) ?_))))
  refine br_f (by decide) (br_t rfl ?_)
  unfold wY_plain_99
  refine sy_push (by omega) ?_
  refine br_f (by decide) (br_f (by decide) (br_t rfl ?_))
  unfold wY_plain_147
  refine sy_push (by omega) ?_
  exact br_f (by decide) (br_f (by decide) (br_f (by decide) (br_f (by decide) h)))
theorem yp_8 {post : SY → Prop} (hp : p < 80) (hc : c p = 8) (hD : D + 3 ≤ 16) (h : post (nI T, tr, ep, nI (D + 3), nI E, nI l, nI t, c, a, upd stk (D + 2) (stk D), em, ce, po, yc, ye)) : wpY_plain post (nI T, tr, ep, nI (D + 2), nI E, nI l, nI t, c, a, stk, em, ce, po, yc, ye) (nI p) := by
  refine ⟨vp_in_nI (n := p) hp (by decide), ?_⟩
  rw [nI_clamp (n := p) (by omega), hc]
  refine nm_e ?_
  refine sy_topz (j := 0) (by omega) (by omega) ?_
  intro z hz
  have ez : z = stk (D + 1) := hz (by omega)
  subst ez
  refine sy_topz (j := 1) (by omega) (by omega) ?_
  intro y hy
  have ey : y = stk D := hy (by omega)
  subst ey
  refine sy_topz (j := 2) (by omega) (by omega) ?_
  intro x hx
  refine sy_tk8 ?_
  refine sy_dr (D := D) 2 (by omega) ?_
  refine br_f (by decide) (br_f (by decide) (br_f (by decide) (br_f (by decide) (br_f (by decide) ?_))))
  refine br_f (by decide) (br_f (by decide) (br_f (by decide) (br_t rfl ?_)))
  refine sy_push (by omega) ?_
  refine sy_push (by omega) ?_
  rw [sk_us, sk_us]
  refine br_f (by decide) (br_t rfl ?_)
  unfold wY_plain_147
  refine sy_push (by omega) ?_
  exact br_f (by decide) (br_f (by decide) (br_f (by decide) (br_f (by decide) h)))
theorem yp_9 {post : SY → Prop} (hp : p < 80) (hc : c p = 9) (hD : D + 3 ≤ 16) (h : post (nI T, tr, ep, nI (D + 3), nI E, nI l, nI t, c, a, upd (upd (upd stk D (stk (D + 1))) (D + 1) (stk (D + 2))) (D + 2) (stk D), em, ce, po, yc, ye)) : wpY_plain post (nI T, tr, ep, nI (D + 3), nI E, nI l, nI t, c, a, stk, em, ce, po, yc, ye) (nI p) := by
  refine ⟨vp_in_nI (n := p) hp (by decide), ?_⟩
  rw [nI_clamp (n := p) (by omega), hc]
  refine nm_e ?_
  refine sy_topz (j := 0) (by omega) (by omega) ?_
  intro z hz
  have ez : z = stk (D + 2) := hz (by omega)
  subst ez
  refine sy_topz (j := 1) (by omega) (by omega) ?_
  intro y hy
  have ey : y = stk (D + 1) := hy (by omega)
  subst ey
  refine sy_topz (j := 2) (by omega) (by omega) ?_
  intro x hx
  have ex : x = stk D := hx (by omega)
  subst ex
  refine sy_tk9 ?_
  refine sy_dr (D := D) 3 (by omega) ?_
  refine br_f (by decide) (br_f (by decide) (br_f (by decide) (br_f (by decide) (br_f (by decide) ?_))))
  refine br_f (by decide) (br_f (by decide) (br_f (by decide) (br_f (by decide) (br_f (by decide) (br_f (by decide) (br_t rfl ?_))))))
  refine sy_push (by omega) ?_
  refine sy_push (by omega) ?_
  refine sy_push (by omega) ?_
  exact br_f (by decide) (br_f (by decide) (br_f (by decide) h))
theorem yp_12 {post : SY → Prop} (hp : p < 80) (hc : c p = 12) {n : Nat} (hn : n < 12) (hD : D < 16) (e : stk D = nI n) (h : post (nI T, tr, ep, nI (D + 1), nI E, nI l, nI t, c, a, upd stk D (ce n), em, ce, po, yc, ye)) : wpY_plain post (nI T, tr, ep, nI (D + 1), nI E, nI l, nI t, c, a, stk, em, ce, po, yc, ye) (nI p) := by
  refine ⟨vp_in_nI (n := p) hp (by decide), ?_⟩
  rw [nI_clamp (n := p) (by omega), hc]
  refine nm_e ?_
  refine sy_topz (j := 0) (by omega) (by omega) ?_
  intro z hz
  have ez : z = stk D := hz (by omega)
  subst ez
  refine sy_topz (j := 1) (by omega) (by omega) ?_
  intro y hy
  refine sy_topz (j := 2) (by omega) (by omega) ?_
  intro x hx
  refine sy_tk12 ?_
  refine sy_dr (D := D) 1 (by omega) ?_
  refine br_f (by decide) (br_f (by decide) (br_f (by decide) (br_f (by decide) (br_f (by decide) ?_))))
  refine br_f (by decide) (br_f (by decide) (br_f (by decide) (br_f (by decide) (br_f (by decide) (br_f (by decide) (br_f (by decide) ?_))))))
  rw [e]
  refine br_t rfl (br_f (nI_pos (by omega)) (br_f (nI_ge (b := 12) hn (by omega)) ⟨vp_in_nI hn (by decide), ?_⟩))
  rw [nI_clamp (n := n) (by omega)]
  refine sy_push (by omega) ?_
  exact br_f (by decide) (br_f (by decide) h)
theorem yp_13 {post : SY → Prop} (hp : p < 80) (hc : c p = 13) {n : Nat} (hn : n < 12) (hD : D + 2 ≤ 16) (e : stk (D + 1) = nI n) (h : post (nI T, tr, ep, nI (D), nI E, nI l, nI t, c, a, stk, em, upd ce n (stk D), po, yc, ye)) : wpY_plain post (nI T, tr, ep, nI (D + 2), nI E, nI l, nI t, c, a, stk, em, ce, po, yc, ye) (nI p) := by
  refine ⟨vp_in_nI (n := p) hp (by decide), ?_⟩
  rw [nI_clamp (n := p) (by omega), hc]
  refine nm_e ?_
  refine sy_topz (j := 0) (by omega) (by omega) ?_
  intro z hz
  have ez : z = stk (D + 1) := hz (by omega)
  subst ez
  refine sy_topz (j := 1) (by omega) (by omega) ?_
  intro y hy
  have ey : y = stk D := hy (by omega)
  subst ey
  refine sy_topz (j := 2) (by omega) (by omega) ?_
  intro x hx
  refine sy_tk13 ?_
  refine sy_dr (D := D) 2 (by omega) ?_
  refine br_f (by decide) (br_f (by decide) (br_f (by decide) (br_f (by decide) (br_f (by decide) ?_))))
  refine br_f (by decide) (br_f (by decide) (br_f (by decide) (br_f (by decide) (br_f (by decide) (br_f (by decide) (br_f (by decide) ?_))))))
  refine br_f (by decide) ?_
  rw [e]
  refine br_t rfl (br_f (nI_pos (by omega)) (br_f (nI_ge (b := 12) hn (by omega)) ⟨vp_in_nI hn (by decide), ?_⟩))
  rw [nI_clamp (n := n) (by omega)]
  refine nm_e ?_
  exact br_f (by decide) h
theorem yp_14 {post : SY → Prop} (hp : p < 80) (hc : c p = 14) (hE : E < 16) (hD : D < 16) (h : post (nI T, tr, ep, nI (D), nI (E + 1), nI l, nI t, c, a, stk, upd em E (stk D), ce, po, yc, ye)) : wpY_plain post (nI T, tr, ep, nI (D + 1), nI E, nI l, nI t, c, a, stk, em, ce, po, yc, ye) (nI p) := by
  refine ⟨vp_in_nI (n := p) hp (by decide), ?_⟩
  rw [nI_clamp (n := p) (by omega), hc]
  refine nm_e ?_
  refine sy_topz (j := 0) (by omega) (by omega) ?_
  intro z hz
  have ez : z = stk D := hz (by omega)
  subst ez
  refine sy_topz (j := 1) (by omega) (by omega) ?_
  intro y hy
  refine sy_topz (j := 2) (by omega) (by omega) ?_
  intro x hx
  refine sy_tk14 ?_
  refine sy_dr (D := D) 1 (by omega) ?_
  refine br_f (by decide) (br_f (by decide) (br_f (by decide) (br_f (by decide) (br_f (by decide) ?_))))
  refine br_f (by decide) (br_f (by decide) (br_f (by decide) (br_f (by decide) (br_f (by decide) (br_f (by decide) (br_f (by decide) ?_))))))
  refine br_f (by decide) (br_f (by decide) (br_t rfl (br_f (nI_ge (b := 16) hE (by omega)) ⟨vp_in_nI hE (by decide), ?_⟩)))
  rw [nI_clamp (n := E) (by omega)]
  exact nm_e (nm_r (nI_1 E) h)
theorem yh_p {post : SY → Prop} {x : Int32} (hp : p < 80) (hl : l < 8) (hc : c p = x) (h1 : ¬ x = 27) (h2 : ¬ x = 15) (h3 : ¬ x = 25) (h4 : x < 16) {D2 E2 : Int32} {stk2 em2 ce2 : Nat → Int32} (pl : ∀ post : SY → Prop, post (nI T, tr, ep, D2, E2, nI l, nI t, c, a, stk2, em2, ce2, po, yc, ye) → wpY_plain post (nI T, tr, ep, nI (D), nI E, nI l, nI t, c, a, stk, em, ce, po, yc, ye) (nI p)) (h : post (nI T, tr, ep, D2, E2, nI l, nI t, c, a, stk2, em2, ce2, upd po l (nI (p + 1)), yc, ye)) : wpY_carryOut post (nI T, tr, ep, nI (D), nI E, nI l, nI t, c, a, stk, em, ce, po, yc, ye) (nI p) := by
  refine ⟨vp_in_nI (n := p) hp (by decide), ?_⟩
  rw [nI_clamp (n := p) (by omega), hc]
  refine nm_e ?_
  refine br_f h1 ?_
  refine sy_cwN hp (by rw [hc]; exact h2) ?_
  refine br_t rfl (br_f h2 (br_f h3 (br_t h4 ?_)))
  refine pl _ ?_
  refine ⟨vp_in_nI (n := l) hl (by decide), ?_⟩
  rw [nI_clamp (n := l) (by omega), nI_1]
  exact nm_e h
theorem yc_0 {post : SY → Prop} (hp : p < 80) (hl : l < 8) (hc : c p = 0) (hD : D < 16) (h : post (nI T, tr, ep, nI (D + 1), nI E, nI l, nI t, c, a, upd stk D (a p), em, ce, upd po l (nI (p + 1)), yc, ye)) : wpY_carryOut post (nI T, tr, ep, nI (D), nI E, nI l, nI t, c, a, stk, em, ce, po, yc, ye) (nI p) :=
  yh_p hp hl hc (by decide) (by decide) (by decide) (by decide) (fun _ k => yp_0 hp hc hD k) h
theorem yc_1 {post : SY → Prop} (hp : p < 80) (hl : l < 8) (hc : c p = 1) (hD : D + 2 ≤ 16) (h : post (nI T, tr, ep, nI (D + 1), nI E, nI l, nI t, c, a, upd stk D (stk D + stk (D + 1)), em, ce, upd po l (nI (p + 1)), yc, ye)) : wpY_carryOut post (nI T, tr, ep, nI (D + 2), nI E, nI l, nI t, c, a, stk, em, ce, po, yc, ye) (nI p) :=
  yh_p hp hl hc (by decide) (by decide) (by decide) (by decide) (fun _ k => yp_1 hp hc hD k) h
theorem yc_2 {post : SY → Prop} (hp : p < 80) (hl : l < 8) (hc : c p = 2) (hD : D + 2 ≤ 16) (h : post (nI T, tr, ep, nI (D + 1), nI E, nI l, nI t, c, a, upd stk D (stk D - stk (D + 1)), em, ce, upd po l (nI (p + 1)), yc, ye)) : wpY_carryOut post (nI T, tr, ep, nI (D + 2), nI E, nI l, nI t, c, a, stk, em, ce, po, yc, ye) (nI p) :=
  yh_p hp hl hc (by decide) (by decide) (by decide) (by decide) (fun _ k => yp_2 hp hc hD k) h
theorem yc_3 {post : SY → Prop} (hp : p < 80) (hl : l < 8) (hc : c p = 3) (hD : D + 2 ≤ 16) (h : post (nI T, tr, ep, nI (D + 1), nI E, nI l, nI t, c, a, upd stk D (stk D * stk (D + 1)), em, ce, upd po l (nI (p + 1)), yc, ye)) : wpY_carryOut post (nI T, tr, ep, nI (D + 2), nI E, nI l, nI t, c, a, stk, em, ce, po, yc, ye) (nI p) :=
  yh_p hp hl hc (by decide) (by decide) (by decide) (by decide) (fun _ k => yp_3 hp hc hD k) h
theorem yc_4 {post : SY → Prop} (hp : p < 80) (hl : l < 8) (hc : c p = 4) (hD : D + 2 ≤ 16) (hnz : ¬ stk (D + 1) = 0) (h : post (nI T, tr, ep, nI (D + 1), nI E, nI l, nI t, c, a, upd stk D (stk D / stk (D + 1)), em, ce, upd po l (nI (p + 1)), yc, ye)) : wpY_carryOut post (nI T, tr, ep, nI (D + 2), nI E, nI l, nI t, c, a, stk, em, ce, po, yc, ye) (nI p) :=
  yh_p hp hl hc (by decide) (by decide) (by decide) (by decide) (fun _ k => yp_4 hp hc hD hnz k) h
theorem yc_10 {post : SY → Prop} (hp : p < 80) (hl : l < 8) (hc : c p = 10) (hD : D + 2 ≤ 16) (h : post (nI T, tr, ep, nI (D + 1), nI E, nI l, nI t, c, a, upd stk D ((if stk D = stk (D + 1) then (1 : Int32) else 0)), em, ce, upd po l (nI (p + 1)), yc, ye)) : wpY_carryOut post (nI T, tr, ep, nI (D + 2), nI E, nI l, nI t, c, a, stk, em, ce, po, yc, ye) (nI p) :=
  yh_p hp hl hc (by decide) (by decide) (by decide) (by decide) (fun _ k => yp_10 hp hc hD k) h
theorem yc_11 {post : SY → Prop} (hp : p < 80) (hl : l < 8) (hc : c p = 11) (hD : D + 2 ≤ 16) (h : post (nI T, tr, ep, nI (D + 1), nI E, nI l, nI t, c, a, upd stk D ((if stk (D + 1) ≤ stk D then (0 : Int32) else 1)), em, ce, upd po l (nI (p + 1)), yc, ye)) : wpY_carryOut post (nI T, tr, ep, nI (D + 2), nI E, nI l, nI t, c, a, stk, em, ce, po, yc, ye) (nI p) :=
  yh_p hp hl hc (by decide) (by decide) (by decide) (by decide) (fun _ k => yp_11 hp hc hD k) h
theorem yc_5 {post : SY → Prop} (hp : p < 80) (hl : l < 8) (hc : c p = 5) (hD : D + 2 ≤ 16) (h : post (nI T, tr, ep, nI (D + 2), nI E, nI l, nI t, c, a, upd stk (D + 1) (stk D), em, ce, upd po l (nI (p + 1)), yc, ye)) : wpY_carryOut post (nI T, tr, ep, nI (D + 1), nI E, nI l, nI t, c, a, stk, em, ce, po, yc, ye) (nI p) :=
  yh_p hp hl hc (by decide) (by decide) (by decide) (by decide) (fun _ k => yp_5 hp hc hD k) h
theorem yc_6 {post : SY → Prop} (hp : p < 80) (hl : l < 8) (hc : c p = 6) (hD : D < 16) (h : post (nI T, tr, ep, nI (D), nI E, nI l, nI t, c, a, stk, em, ce, upd po l (nI (p + 1)), yc, ye)) : wpY_carryOut post (nI T, tr, ep, nI (D + 1), nI E, nI l, nI t, c, a, stk, em, ce, po, yc, ye) (nI p) :=
  yh_p hp hl hc (by decide) (by decide) (by decide) (by decide) (fun _ k => yp_6 hp hc hD k) h
theorem yc_7 {post : SY → Prop} (hp : p < 80) (hl : l < 8) (hc : c p = 7) (hD : D + 2 ≤ 16) (h : post (nI T, tr, ep, nI (D + 2), nI E, nI l, nI t, c, a, upd (upd stk D (stk (D + 1))) (D + 1) (stk D), em, ce, upd po l (nI (p + 1)), yc, ye)) : wpY_carryOut post (nI T, tr, ep, nI (D + 2), nI E, nI l, nI t, c, a, stk, em, ce, po, yc, ye) (nI p) :=
  yh_p hp hl hc (by decide) (by decide) (by decide) (by decide) (fun _ k => yp_7 hp hc hD k) h
theorem yc_8 {post : SY → Prop} (hp : p < 80) (hl : l < 8) (hc : c p = 8) (hD : D + 3 ≤ 16) (h : post (nI T, tr, ep, nI (D + 3), nI E, nI l, nI t, c, a, upd stk (D + 2) (stk D), em, ce, upd po l (nI (p + 1)), yc, ye)) : wpY_carryOut post (nI T, tr, ep, nI (D + 2), nI E, nI l, nI t, c, a, stk, em, ce, po, yc, ye) (nI p) :=
  yh_p hp hl hc (by decide) (by decide) (by decide) (by decide) (fun _ k => yp_8 hp hc hD k) h
theorem yc_9 {post : SY → Prop} (hp : p < 80) (hl : l < 8) (hc : c p = 9) (hD : D + 3 ≤ 16) (h : post (nI T, tr, ep, nI (D + 3), nI E, nI l, nI t, c, a, upd (upd (upd stk D (stk (D + 1))) (D + 1) (stk (D + 2))) (D + 2) (stk D), em, ce, upd po l (nI (p + 1)), yc, ye)) : wpY_carryOut post (nI T, tr, ep, nI (D + 3), nI E, nI l, nI t, c, a, stk, em, ce, po, yc, ye) (nI p) :=
  yh_p hp hl hc (by decide) (by decide) (by decide) (by decide) (fun _ k => yp_9 hp hc hD k) h
theorem yc_12 {post : SY → Prop} (hp : p < 80) (hl : l < 8) (hc : c p = 12) {n : Nat} (hn : n < 12) (hD : D < 16) (e : stk D = nI n) (h : post (nI T, tr, ep, nI (D + 1), nI E, nI l, nI t, c, a, upd stk D (ce n), em, ce, upd po l (nI (p + 1)), yc, ye)) : wpY_carryOut post (nI T, tr, ep, nI (D + 1), nI E, nI l, nI t, c, a, stk, em, ce, po, yc, ye) (nI p) :=
  yh_p hp hl hc (by decide) (by decide) (by decide) (by decide) (fun _ k => yp_12 hp hc hn hD e k) h
theorem yc_13 {post : SY → Prop} (hp : p < 80) (hl : l < 8) (hc : c p = 13) {n : Nat} (hn : n < 12) (hD : D + 2 ≤ 16) (e : stk (D + 1) = nI n) (h : post (nI T, tr, ep, nI (D), nI E, nI l, nI t, c, a, stk, em, upd ce n (stk D), upd po l (nI (p + 1)), yc, ye)) : wpY_carryOut post (nI T, tr, ep, nI (D + 2), nI E, nI l, nI t, c, a, stk, em, ce, po, yc, ye) (nI p) :=
  yh_p hp hl hc (by decide) (by decide) (by decide) (by decide) (fun _ k => yp_13 hp hc hn hD e k) h
theorem yc_14 {post : SY → Prop} (hp : p < 80) (hl : l < 8) (hc : c p = 14) (hE : E < 16) (hD : D < 16) (h : post (nI T, tr, ep, nI (D), nI (E + 1), nI l, nI t, c, a, stk, upd em E (stk D), ce, upd po l (nI (p + 1)), yc, ye)) : wpY_carryOut post (nI T, tr, ep, nI (D + 1), nI E, nI l, nI t, c, a, stk, em, ce, po, yc, ye) (nI p) :=
  yh_p hp hl hc (by decide) (by decide) (by decide) (by decide) (fun _ k => yp_14 hp hc hE hD k) h
theorem yl_16T {post : Int32 → SY → Prop} (h80 : T ≤ 80) (hp : p < T) (hc : c p = 16) (hD : D < 16) (hz : stk D = 0) {b : Nat} (hb : sk_bh c true (T - (p + 1)) (p + 1) 0 = b) (h : post (nI (b + 1)) (nI T, tr, ep, nI (D + 1), nI E, nI l, nI t, c, a, stk, em, ce, po, yc, ye)) : wpY_led post (nI T, tr, ep, nI (D + 1), nI E, nI l, nI t, c, a, stk, em, ce, po, yc, ye) (nI p) := by
  refine ⟨vp_in_nI (n := p) (by omega) (by decide), ?_⟩
  rw [nI_clamp (n := p) (by omega), hc]
  refine nm_e ?_
  refine sy_topz (j := 0) (by omega) (by omega) ?_
  intro z hz0
  have ez : z = stk D := hz0 (by omega)
  subst ez
  refine nm_r (pk_mul 80 l) ?_
  refine br_t rfl (br_t hz ?_)
  refine sy_behind (e := true) h80 hp (by decide) ?_
  rw [hb]
  rw [nI_1]; exact h
theorem yl_16F {post : Int32 → SY → Prop} (h80 : T ≤ 80) (hp : p < T) (hc : c p = 16) (hD : D < 16) (hz : ¬ stk D = 0) (h : post (nI (p + 1)) (nI T, tr, ep, nI (D + 1), nI E, nI l, nI t, c, a, stk, em, ce, po, yc, ye)) : wpY_led post (nI T, tr, ep, nI (D + 1), nI E, nI l, nI t, c, a, stk, em, ce, po, yc, ye) (nI p) := by
  refine ⟨vp_in_nI (n := p) (by omega) (by decide), ?_⟩
  rw [nI_clamp (n := p) (by omega), hc]
  refine nm_e ?_
  refine sy_topz (j := 0) (by omega) (by omega) ?_
  intro z hz0
  have ez : z = stk D := hz0 (by omega)
  subst ez
  refine nm_r (pk_mul 80 l) ?_
  refine br_t rfl (br_f hz ?_)
  refine br_f (by decide) (br_f (by decide) (br_f (by decide) (br_f (by decide) (br_f (by decide) (br_f (by decide) ?_)))))
  rw [nI_1]; exact h
theorem yl_17 {post : Int32 → SY → Prop} (h80 : T ≤ 80) (hp : p < T) (hc : c p = 17) (hD : D ≤ 16) {b : Nat} (hb : sk_bh c false (T - (p + 1)) (p + 1) 0 = b) (h : post (nI (b + 1)) (nI T, tr, ep, nI (D), nI E, nI l, nI t, c, a, stk, em, ce, po, yc, ye)) : wpY_led post (nI T, tr, ep, nI (D), nI E, nI l, nI t, c, a, stk, em, ce, po, yc, ye) (nI p) := by
  refine ⟨vp_in_nI (n := p) (by omega) (by decide), ?_⟩
  rw [nI_clamp (n := p) (by omega), hc]
  refine nm_e ?_
  refine sy_topz (j := 0) (by omega) (by omega) ?_
  intro z hz0
  refine nm_r (pk_mul 80 l) ?_
  refine br_f (by decide) (br_t rfl ?_)
  refine sy_behind (e := false) h80 hp (by decide) ?_
  rw [hb]
  rw [nI_1]; exact h
theorem yl_18 {post : Int32 → SY → Prop} (h80 : T ≤ 80) (hp : p < T) (hc : c p = 18) (hD : D ≤ 16) (h : post (nI (p + 1)) (nI T, tr, ep, nI (D), nI E, nI l, nI t, c, a, stk, em, ce, po, yc, ye)) : wpY_led post (nI T, tr, ep, nI (D), nI E, nI l, nI t, c, a, stk, em, ce, po, yc, ye) (nI p) := by
  refine ⟨vp_in_nI (n := p) (by omega) (by decide), ?_⟩
  rw [nI_clamp (n := p) (by omega), hc]
  refine nm_e ?_
  refine sy_topz (j := 0) (by omega) (by omega) ?_
  intro z hz0
  refine nm_r (pk_mul 80 l) ?_
  refine br_f (by decide) ?_
  refine br_f (by decide) (br_f (by decide) (br_f (by decide) (br_f (by decide) (br_f (by decide) (br_f (by decide) ?_)))))
  rw [nI_1]; exact h
theorem yl_19 {post : Int32 → SY → Prop} (h80 : T ≤ 80) (hp : p < T) (hc : c p = 19) (hD : D ≤ 16) (h : post (nI (p + 1)) (nI T, tr, ep, nI (D), nI E, nI l, nI t, c, a, stk, em, ce, po, yc, ye)) : wpY_led post (nI T, tr, ep, nI (D), nI E, nI l, nI t, c, a, stk, em, ce, po, yc, ye) (nI p) := by
  refine ⟨vp_in_nI (n := p) (by omega) (by decide), ?_⟩
  rw [nI_clamp (n := p) (by omega), hc]
  refine nm_e ?_
  refine sy_topz (j := 0) (by omega) (by omega) ?_
  intro z hz0
  refine nm_r (pk_mul 80 l) ?_
  refine br_f (by decide) ?_
  refine br_f (by decide) (br_f (by decide) (br_f (by decide) (br_f (by decide) (br_f (by decide) (br_f (by decide) ?_)))))
  rw [nI_1]; exact h
theorem yl_20T {post : Int32 → SY → Prop} (h80 : T ≤ 80) (hp : p < T) (hc : c p = 20) (hD : D < 16) (hz : stk D = 0) {s k : Nat} {u : List (Nat × Nat)} (hR : sk_R c p = (s, k) :: u) (h : post (nI (s + 1)) (nI T, tr, ep, nI (D + 1), nI E, nI l, nI (t + 1), c, a, stk, em, ce, po, yc, ye)) : wpY_led post (nI T, tr, ep, nI (D + 1), nI E, nI l, nI t, c, a, stk, em, ce, po, yc, ye) (nI p) := by
  refine ⟨vp_in_nI (n := p) (by omega) (by decide), ?_⟩
  rw [nI_clamp (n := p) (by omega), hc]
  refine nm_e ?_
  refine sy_topz (j := 0) (by omega) (by omega) ?_
  intro z hz0
  have ez : z = stk D := hz0 (by omega)
  subst ez
  refine nm_r (pk_mul 80 l) ?_
  refine br_f (by decide) (br_f (by decide) (br_f (by decide) (br_t rfl (br_t hz ?_))))
  unfold wY_led_91
  refine nm_r (nI_1 t) ?_
  refine sy_around (by omega) ?_
  rw [hR, sk_fn, if_pos (Or.inl (by decide))]
  rw [nI_1]; exact h
theorem yl_20F {post : Int32 → SY → Prop} (h80 : T ≤ 80) (hp : p < T) (hc : c p = 20) (hD : D < 16) (hz : ¬ stk D = 0) (h : post (nI (p + 1)) (nI T, tr, ep, nI (D + 1), nI E, nI l, nI t, c, a, stk, em, ce, po, yc, ye)) : wpY_led post (nI T, tr, ep, nI (D + 1), nI E, nI l, nI t, c, a, stk, em, ce, po, yc, ye) (nI p) := by
  refine ⟨vp_in_nI (n := p) (by omega) (by decide), ?_⟩
  rw [nI_clamp (n := p) (by omega), hc]
  refine nm_e ?_
  refine sy_topz (j := 0) (by omega) (by omega) ?_
  intro z hz0
  have ez : z = stk D := hz0 (by omega)
  subst ez
  refine nm_r (pk_mul 80 l) ?_
  refine br_f (by decide) (br_f (by decide) (br_f (by decide) (br_t rfl (br_f hz ?_))))
  refine br_f (by decide) (br_f (by decide) (br_f (by decide) ?_))
  rw [nI_1]; exact h
theorem yl_21T {post : Int32 → SY → Prop} (h80 : T ≤ 80) (hp : p < T) (hc : c p = 21) (hD : D < 16) (hz : stk D = 0) {b : Nat} (hb : sk_bh c false (T - (p + 1)) (p + 1) 0 = b) (h : post (nI (b + 1)) (nI T, tr, ep, nI (D + 1), nI E, nI l, nI t, c, a, stk, em, ce, po, yc, ye)) : wpY_led post (nI T, tr, ep, nI (D + 1), nI E, nI l, nI t, c, a, stk, em, ce, po, yc, ye) (nI p) := by
  refine ⟨vp_in_nI (n := p) (by omega) (by decide), ?_⟩
  rw [nI_clamp (n := p) (by omega), hc]
  refine nm_e ?_
  refine sy_topz (j := 0) (by omega) (by omega) ?_
  intro z hz0
  have ez : z = stk D := hz0 (by omega)
  subst ez
  refine nm_r (pk_mul 80 l) ?_
  refine br_f (by decide) (br_f (by decide) (br_t rfl (br_t hz ?_)))
  refine sy_behind (e := false) h80 hp (by decide) ?_
  rw [hb]
  rw [nI_1]; exact h
theorem yl_21F {post : Int32 → SY → Prop} (h80 : T ≤ 80) (hp : p < T) (hc : c p = 21) (hD : D < 16) (hz : ¬ stk D = 0) (h : post (nI (p + 1)) (nI T, tr, ep, nI (D + 1), nI E, nI l, nI t, c, a, stk, em, ce, po, yc, ye)) : wpY_led post (nI T, tr, ep, nI (D + 1), nI E, nI l, nI t, c, a, stk, em, ce, po, yc, ye) (nI p) := by
  refine ⟨vp_in_nI (n := p) (by omega) (by decide), ?_⟩
  rw [nI_clamp (n := p) (by omega), hc]
  refine nm_e ?_
  refine sy_topz (j := 0) (by omega) (by omega) ?_
  intro z hz0
  have ez : z = stk D := hz0 (by omega)
  subst ez
  refine nm_r (pk_mul 80 l) ?_
  refine br_f (by decide) (br_f (by decide) (br_t rfl (br_f hz ?_)))
  refine br_f (by decide) (br_f (by decide) (br_f (by decide) (br_f (by decide) ?_)))
  rw [nI_1]; exact h
theorem yl_22 {post : Int32 → SY → Prop} (h80 : T ≤ 80) (hp : p < T) (hc : c p = 22) (hD : D ≤ 16) {s k : Nat} {u : List (Nat × Nat)} (hR : sk_R c p = (s, k) :: u) (h : post (nI (s + 1)) (nI T, tr, ep, nI (D), nI E, nI l, nI (t + 1), c, a, stk, em, ce, po, yc, ye)) : wpY_led post (nI T, tr, ep, nI (D), nI E, nI l, nI t, c, a, stk, em, ce, po, yc, ye) (nI p) := by
  refine ⟨vp_in_nI (n := p) (by omega) (by decide), ?_⟩
  rw [nI_clamp (n := p) (by omega), hc]
  refine nm_e ?_
  refine sy_topz (j := 0) (by omega) (by omega) ?_
  intro z hz0
  refine nm_r (pk_mul 80 l) ?_
  refine br_f (by decide) (br_f (by decide) (br_f (by decide) (br_f (by decide) (br_t rfl ?_))))
  unfold wY_led_91
  refine nm_r (nI_1 t) ?_
  refine sy_around (by omega) ?_
  rw [hR, sk_fn, if_pos (Or.inl (by decide))]
  rw [nI_1]; exact h
theorem yl_23T {post : Int32 → SY → Prop} (h80 : T ≤ 80) (hp : p < T) (hc : c p = 23) (hl : l ≤ 7) (hD : D < 16) (hz : 0 < stk D) (h : post (nI (p + 1)) (nI T, tr, ep, nI (D + 1), nI E, nI l, nI t, c, a, stk, em, ce, po, upd yc (80 * l + p) 0, upd ye (80 * l + p) (stk D))) : wpY_led post (nI T, tr, ep, nI (D + 1), nI E, nI l, nI t, c, a, stk, em, ce, po, yc, ye) (nI p) := by
  refine ⟨vp_in_nI (n := p) (by omega) (by decide), ?_⟩
  rw [nI_clamp (n := p) (by omega), hc]
  refine nm_e ?_
  refine sy_topz (j := 0) (by omega) (by omega) ?_
  intro z hz0
  have ez : z = stk D := hz0 (by omega)
  subst ez
  refine nm_r (pk_mul 80 l) ?_
  refine br_f (by decide) (br_f (by decide) (br_f (by decide) (br_f (by decide) (br_f (by decide) (br_t rfl ?_)))))
  rw [nI_add]
  refine ⟨vp_in_nI (n := 80 * l + p) (by omega) (by decide), ?_⟩
  rw [nI_clamp (n := 80 * l + p) (by omega)]
  refine nm_e ⟨vp_in_nI (n := 80 * l + p) (by omega) (by decide), ?_⟩
  refine nm_e ?_
  refine br_t hz (br_f (by decide) ?_)
  rw [nI_1]; exact h
theorem yl_23F {post : Int32 → SY → Prop} (h80 : T ≤ 80) (hp : p < T) (hc : c p = 23) (hl : l ≤ 7) (hD : D < 16) (hz : ¬ 0 < stk D) {b : Nat} (hb : sk_bh c false (T - (p + 1)) (p + 1) 0 = b) (h : post (nI (b + 1)) (nI T, tr, ep, nI (D + 1), nI E, nI l, nI t, c, a, stk, em, ce, po, upd yc (80 * l + p) 0, upd ye (80 * l + p) (stk D))) : wpY_led post (nI T, tr, ep, nI (D + 1), nI E, nI l, nI t, c, a, stk, em, ce, po, yc, ye) (nI p) := by
  refine ⟨vp_in_nI (n := p) (by omega) (by decide), ?_⟩
  rw [nI_clamp (n := p) (by omega), hc]
  refine nm_e ?_
  refine sy_topz (j := 0) (by omega) (by omega) ?_
  intro z hz0
  have ez : z = stk D := hz0 (by omega)
  subst ez
  refine nm_r (pk_mul 80 l) ?_
  refine br_f (by decide) (br_f (by decide) (br_f (by decide) (br_f (by decide) (br_f (by decide) (br_t rfl ?_)))))
  rw [nI_add]
  refine ⟨vp_in_nI (n := 80 * l + p) (by omega) (by decide), ?_⟩
  rw [nI_clamp (n := 80 * l + p) (by omega)]
  refine nm_e ⟨vp_in_nI (n := 80 * l + p) (by omega) (by decide), ?_⟩
  refine nm_e ?_
  refine br_f hz ?_
  refine sy_behind (e := false) h80 hp (by decide) ?_
  rw [hb]
  rw [nI_1]; exact h
theorem yl_24T {post : Int32 → SY → Prop} (h80 : T ≤ 80) (hp : p < T) (hc : c p = 24) (hl : l ≤ 7) (hD : D ≤ 16) {s k : Nat} {u : List (Nat × Nat)} (hR : sk_R c p = (s, k) :: u) (hs : s < 80) (hk : ye (80 * l + s) ≤ yc (80 * l + s) + 1) (h : post (nI (p + 1)) (nI T, tr, ep, nI (D), nI E, nI l, nI (t + 1), c, a, stk, em, ce, po, upd yc (80 * l + s) (yc (80 * l + s) + 1), ye)) : wpY_led post (nI T, tr, ep, nI (D), nI E, nI l, nI t, c, a, stk, em, ce, po, yc, ye) (nI p) := by
  refine ⟨vp_in_nI (n := p) (by omega) (by decide), ?_⟩
  rw [nI_clamp (n := p) (by omega), hc]
  refine nm_e ?_
  refine sy_topz (j := 0) (by omega) (by omega) ?_
  intro z hz0
  refine nm_r (pk_mul 80 l) ?_
  refine br_f (by decide) (br_f (by decide) (br_f (by decide) (br_f (by decide) (br_f (by decide) (br_f (by decide) (br_t rfl ?_))))))
  refine sy_around (by omega) ?_
  rw [hR, sk_fn, if_pos (Or.inl (by decide))]
  refine nm_r (nI_1 t) ?_
  refine br_t (nI_pos' (by omega)) ?_
  rw [nI_add]
  refine ⟨vp_in_nI (n := 80 * l + s) (by omega) (by decide), vp_in_nI (n := 80 * l + s) (by omega) (by decide), ?_⟩
  rw [nI_clamp (n := 80 * l + s) (by omega)]
  refine nm_e ⟨vp_in_nI (n := 80 * l + s) (by omega) (by decide), vp_in_nI (n := 80 * l + s) (by omega) (by decide), ?_⟩
  refine br_t (by rw [pk_us]; exact hk) ?_
  rw [nI_1]; exact h
theorem yl_24F {post : Int32 → SY → Prop} (h80 : T ≤ 80) (hp : p < T) (hc : c p = 24) (hl : l ≤ 7) (hD : D ≤ 16) {s k : Nat} {u : List (Nat × Nat)} (hR : sk_R c p = (s, k) :: u) (hs : s < 80) (hk : ¬ ye (80 * l + s) ≤ yc (80 * l + s) + 1) (h : post (nI (s + 1)) (nI T, tr, ep, nI (D), nI E, nI l, nI (t + 1), c, a, stk, em, ce, po, upd yc (80 * l + s) (yc (80 * l + s) + 1), ye)) : wpY_led post (nI T, tr, ep, nI (D), nI E, nI l, nI t, c, a, stk, em, ce, po, yc, ye) (nI p) := by
  refine ⟨vp_in_nI (n := p) (by omega) (by decide), ?_⟩
  rw [nI_clamp (n := p) (by omega), hc]
  refine nm_e ?_
  refine sy_topz (j := 0) (by omega) (by omega) ?_
  intro z hz0
  refine nm_r (pk_mul 80 l) ?_
  refine br_f (by decide) (br_f (by decide) (br_f (by decide) (br_f (by decide) (br_f (by decide) (br_f (by decide) (br_t rfl ?_))))))
  refine sy_around (by omega) ?_
  rw [hR, sk_fn, if_pos (Or.inl (by decide))]
  refine nm_r (nI_1 t) ?_
  refine br_t (nI_pos' (by omega)) ?_
  rw [nI_add]
  refine ⟨vp_in_nI (n := 80 * l + s) (by omega) (by decide), vp_in_nI (n := 80 * l + s) (by omega) (by decide), ?_⟩
  rw [nI_clamp (n := 80 * l + s) (by omega)]
  refine nm_e ⟨vp_in_nI (n := 80 * l + s) (by omega) (by decide), vp_in_nI (n := 80 * l + s) (by omega) (by decide), ?_⟩
  refine br_f (by rw [pk_us]; exact hk) ?_
  rw [nI_1]; exact h
theorem yh_l {post : SY → Prop} {x r : Int32} {k : Nat} (hp : p < 80) (hl : l < 8) (hD : D + k ≤ 16) (hc : c p = x) (h1 : ¬ x = 27) (h2 : ¬ x = 15) (h3 : ¬ x = 25) (h4 : ¬ x < 16) (tk : ∀ post : Int32 → Prop, post (nI k) → wpY_takes post x) {t2 : Nat} {yc2 ye2 : Nat → Int32} (ld : ∀ post : Int32 → SY → Prop, post r (nI T, tr, ep, nI (D + k), nI E, nI l, nI t2, c, a, stk, em, ce, po, yc2, ye2) → wpY_led post (nI T, tr, ep, nI (D + k), nI E, nI l, nI t, c, a, stk, em, ce, po, yc, ye) (nI p)) (h : post (nI T, tr, ep, nI (D), nI E, nI l, nI t2, c, a, stk, em, ce, upd po l r, yc2, ye2)) : wpY_carryOut post (nI T, tr, ep, nI (D + k), nI E, nI l, nI t, c, a, stk, em, ce, po, yc, ye) (nI p) := by
  refine ⟨vp_in_nI (n := p) hp (by decide), ?_⟩
  rw [nI_clamp (n := p) (by omega), hc]
  refine nm_e ?_
  refine br_f h1 ?_
  refine sy_cwN hp (by rw [hc]; exact h2) ?_
  refine br_t rfl (br_f h2 (br_f h3 (br_f h4 ?_)))
  refine ld _ ?_
  refine tk _ ?_
  refine sy_dr k hD ?_
  refine ⟨vp_in_nI (n := l) hl (by decide), ?_⟩
  rw [nI_clamp (n := l) (by omega)]
  exact nm_e h
theorem yc_16T {post : SY → Prop} (h80 : T ≤ 80) (hp : p < T) (hl : l ≤ 7) (hc : c p = 16) (hD : D < 16) (hz : stk D = 0) {b : Nat} (hb : sk_bh c true (T - (p + 1)) (p + 1) 0 = b) (h : post (nI T, tr, ep, nI (D), nI E, nI l, nI t, c, a, stk, em, ce, upd po l (nI (b + 1)), yc, ye)) : wpY_carryOut post (nI T, tr, ep, nI (D + 1), nI E, nI l, nI t, c, a, stk, em, ce, po, yc, ye) (nI p) :=
  yh_l (k := 1) (by omega) (by omega) (by omega) hc (by decide) (by decide) (by decide) (by decide) (fun _ k => sy_tk16 k) (fun _ k => yl_16T h80 hp hc hD hz hb k) h
theorem yc_16F {post : SY → Prop} (h80 : T ≤ 80) (hp : p < T) (hl : l ≤ 7) (hc : c p = 16) (hD : D < 16) (hz : ¬ stk D = 0) (h : post (nI T, tr, ep, nI (D), nI E, nI l, nI t, c, a, stk, em, ce, upd po l (nI (p + 1)), yc, ye)) : wpY_carryOut post (nI T, tr, ep, nI (D + 1), nI E, nI l, nI t, c, a, stk, em, ce, po, yc, ye) (nI p) :=
  yh_l (k := 1) (by omega) (by omega) (by omega) hc (by decide) (by decide) (by decide) (by decide) (fun _ k => sy_tk16 k) (fun _ k => yl_16F h80 hp hc hD hz k) h
theorem yc_17 {post : SY → Prop} (h80 : T ≤ 80) (hp : p < T) (hl : l ≤ 7) (hc : c p = 17) (hD : D ≤ 16) {b : Nat} (hb : sk_bh c false (T - (p + 1)) (p + 1) 0 = b) (h : post (nI T, tr, ep, nI (D), nI E, nI l, nI t, c, a, stk, em, ce, upd po l (nI (b + 1)), yc, ye)) : wpY_carryOut post (nI T, tr, ep, nI (D), nI E, nI l, nI t, c, a, stk, em, ce, po, yc, ye) (nI p) :=
  yh_l (k := 0) (by omega) (by omega) (by omega) hc (by decide) (by decide) (by decide) (by decide) (fun _ k => sy_tk17 k) (fun _ k => yl_17 h80 hp hc hD hb k) h
theorem yc_18 {post : SY → Prop} (h80 : T ≤ 80) (hp : p < T) (hl : l ≤ 7) (hc : c p = 18) (hD : D ≤ 16) (h : post (nI T, tr, ep, nI (D), nI E, nI l, nI t, c, a, stk, em, ce, upd po l (nI (p + 1)), yc, ye)) : wpY_carryOut post (nI T, tr, ep, nI (D), nI E, nI l, nI t, c, a, stk, em, ce, po, yc, ye) (nI p) :=
  yh_l (k := 0) (by omega) (by omega) (by omega) hc (by decide) (by decide) (by decide) (by decide) (fun _ k => sy_tk18 k) (fun _ k => yl_18 h80 hp hc hD k) h
theorem yc_19 {post : SY → Prop} (h80 : T ≤ 80) (hp : p < T) (hl : l ≤ 7) (hc : c p = 19) (hD : D ≤ 16) (h : post (nI T, tr, ep, nI (D), nI E, nI l, nI t, c, a, stk, em, ce, upd po l (nI (p + 1)), yc, ye)) : wpY_carryOut post (nI T, tr, ep, nI (D), nI E, nI l, nI t, c, a, stk, em, ce, po, yc, ye) (nI p) :=
  yh_l (k := 0) (by omega) (by omega) (by omega) hc (by decide) (by decide) (by decide) (by decide) (fun _ k => sy_tk19 k) (fun _ k => yl_19 h80 hp hc hD k) h
theorem yc_20T {post : SY → Prop} (h80 : T ≤ 80) (hp : p < T) (hl : l ≤ 7) (hc : c p = 20) (hD : D < 16) (hz : stk D = 0) {s k : Nat} {u : List (Nat × Nat)} (hR : sk_R c p = (s, k) :: u) (h : post (nI T, tr, ep, nI (D), nI E, nI l, nI (t + 1), c, a, stk, em, ce, upd po l (nI (s + 1)), yc, ye)) : wpY_carryOut post (nI T, tr, ep, nI (D + 1), nI E, nI l, nI t, c, a, stk, em, ce, po, yc, ye) (nI p) :=
  yh_l (k := 1) (by omega) (by omega) (by omega) hc (by decide) (by decide) (by decide) (by decide) (fun _ k => sy_tk20 k) (fun _ k => yl_20T h80 hp hc hD hz hR k) h
theorem yc_20F {post : SY → Prop} (h80 : T ≤ 80) (hp : p < T) (hl : l ≤ 7) (hc : c p = 20) (hD : D < 16) (hz : ¬ stk D = 0) (h : post (nI T, tr, ep, nI (D), nI E, nI l, nI t, c, a, stk, em, ce, upd po l (nI (p + 1)), yc, ye)) : wpY_carryOut post (nI T, tr, ep, nI (D + 1), nI E, nI l, nI t, c, a, stk, em, ce, po, yc, ye) (nI p) :=
  yh_l (k := 1) (by omega) (by omega) (by omega) hc (by decide) (by decide) (by decide) (by decide) (fun _ k => sy_tk20 k) (fun _ k => yl_20F h80 hp hc hD hz k) h
theorem yc_21T {post : SY → Prop} (h80 : T ≤ 80) (hp : p < T) (hl : l ≤ 7) (hc : c p = 21) (hD : D < 16) (hz : stk D = 0) {b : Nat} (hb : sk_bh c false (T - (p + 1)) (p + 1) 0 = b) (h : post (nI T, tr, ep, nI (D), nI E, nI l, nI t, c, a, stk, em, ce, upd po l (nI (b + 1)), yc, ye)) : wpY_carryOut post (nI T, tr, ep, nI (D + 1), nI E, nI l, nI t, c, a, stk, em, ce, po, yc, ye) (nI p) :=
  yh_l (k := 1) (by omega) (by omega) (by omega) hc (by decide) (by decide) (by decide) (by decide) (fun _ k => sy_tk21 k) (fun _ k => yl_21T h80 hp hc hD hz hb k) h
theorem yc_21F {post : SY → Prop} (h80 : T ≤ 80) (hp : p < T) (hl : l ≤ 7) (hc : c p = 21) (hD : D < 16) (hz : ¬ stk D = 0) (h : post (nI T, tr, ep, nI (D), nI E, nI l, nI t, c, a, stk, em, ce, upd po l (nI (p + 1)), yc, ye)) : wpY_carryOut post (nI T, tr, ep, nI (D + 1), nI E, nI l, nI t, c, a, stk, em, ce, po, yc, ye) (nI p) :=
  yh_l (k := 1) (by omega) (by omega) (by omega) hc (by decide) (by decide) (by decide) (by decide) (fun _ k => sy_tk21 k) (fun _ k => yl_21F h80 hp hc hD hz k) h
theorem yc_22 {post : SY → Prop} (h80 : T ≤ 80) (hp : p < T) (hl : l ≤ 7) (hc : c p = 22) (hD : D ≤ 16) {s k : Nat} {u : List (Nat × Nat)} (hR : sk_R c p = (s, k) :: u) (h : post (nI T, tr, ep, nI (D), nI E, nI l, nI (t + 1), c, a, stk, em, ce, upd po l (nI (s + 1)), yc, ye)) : wpY_carryOut post (nI T, tr, ep, nI (D), nI E, nI l, nI t, c, a, stk, em, ce, po, yc, ye) (nI p) :=
  yh_l (k := 0) (by omega) (by omega) (by omega) hc (by decide) (by decide) (by decide) (by decide) (fun _ k => sy_tk22 k) (fun _ k => yl_22 h80 hp hc hD hR k) h
theorem yc_23T {post : SY → Prop} (h80 : T ≤ 80) (hp : p < T) (hl : l ≤ 7) (hc : c p = 23) (hD : D < 16) (hz : 0 < stk D) (h : post (nI T, tr, ep, nI (D), nI E, nI l, nI t, c, a, stk, em, ce, upd po l (nI (p + 1)), upd yc (80 * l + p) 0, upd ye (80 * l + p) (stk D))) : wpY_carryOut post (nI T, tr, ep, nI (D + 1), nI E, nI l, nI t, c, a, stk, em, ce, po, yc, ye) (nI p) :=
  yh_l (k := 1) (by omega) (by omega) (by omega) hc (by decide) (by decide) (by decide) (by decide) (fun _ k => sy_tk23 k) (fun _ k => yl_23T h80 hp hc hl hD hz k) h
theorem yc_23F {post : SY → Prop} (h80 : T ≤ 80) (hp : p < T) (hl : l ≤ 7) (hc : c p = 23) (hD : D < 16) (hz : ¬ 0 < stk D) {b : Nat} (hb : sk_bh c false (T - (p + 1)) (p + 1) 0 = b) (h : post (nI T, tr, ep, nI (D), nI E, nI l, nI t, c, a, stk, em, ce, upd po l (nI (b + 1)), upd yc (80 * l + p) 0, upd ye (80 * l + p) (stk D))) : wpY_carryOut post (nI T, tr, ep, nI (D + 1), nI E, nI l, nI t, c, a, stk, em, ce, po, yc, ye) (nI p) :=
  yh_l (k := 1) (by omega) (by omega) (by omega) hc (by decide) (by decide) (by decide) (by decide) (fun _ k => sy_tk23 k) (fun _ k => yl_23F h80 hp hc hl hD hz hb k) h
theorem yc_24T {post : SY → Prop} (h80 : T ≤ 80) (hp : p < T) (hl : l ≤ 7) (hc : c p = 24) (hD : D ≤ 16) {s k : Nat} {u : List (Nat × Nat)} (hR : sk_R c p = (s, k) :: u) (hs : s < 80) (hk : ye (80 * l + s) ≤ yc (80 * l + s) + 1) (h : post (nI T, tr, ep, nI (D), nI E, nI l, nI (t + 1), c, a, stk, em, ce, upd po l (nI (p + 1)), upd yc (80 * l + s) (yc (80 * l + s) + 1), ye)) : wpY_carryOut post (nI T, tr, ep, nI (D), nI E, nI l, nI t, c, a, stk, em, ce, po, yc, ye) (nI p) :=
  yh_l (k := 0) (by omega) (by omega) (by omega) hc (by decide) (by decide) (by decide) (by decide) (fun _ k => sy_tk24 k) (fun _ k => yl_24T h80 hp hc hl hD hR hs hk k) h
theorem yc_24F {post : SY → Prop} (h80 : T ≤ 80) (hp : p < T) (hl : l ≤ 7) (hc : c p = 24) (hD : D ≤ 16) {s k : Nat} {u : List (Nat × Nat)} (hR : sk_R c p = (s, k) :: u) (hs : s < 80) (hk : ¬ ye (80 * l + s) ≤ yc (80 * l + s) + 1) (h : post (nI T, tr, ep, nI (D), nI E, nI l, nI (t + 1), c, a, stk, em, ce, upd po l (nI (s + 1)), upd yc (80 * l + s) (yc (80 * l + s) + 1), ye)) : wpY_carryOut post (nI T, tr, ep, nI (D), nI E, nI l, nI t, c, a, stk, em, ce, po, yc, ye) (nI p) :=
  yh_l (k := 0) (by omega) (by omega) (by omega) hc (by decide) (by decide) (by decide) (by decide) (fun _ k => sy_tk24 k) (fun _ k => yl_24F h80 hp hc hl hD hR hs hk k) h
theorem yc_27 {post : SY → Prop} (hp : p < 80) (hc : c p = 27) (h : post (nI T, tr, ep, nI (D), nI E, nI l - 1, nI t, c, a, stk, em, ce, po, yc, ye)) : wpY_carryOut post (nI T, tr, ep, nI (D), nI E, nI l, nI t, c, a, stk, em, ce, po, yc, ye) (nI p) := by
  refine ⟨vp_in_nI (n := p) hp (by decide), ?_⟩
  rw [nI_clamp (n := p) (by omega), hc]
  exact nm_e (br_t rfl (nm_e h))
theorem yc_15V {post : SY → Prop} {q n : Nat} (h80 : T ≤ 80) (hp : p < T) (hl : l ≤ 7) (hc : c p = 15) (ha : a p = nI n) (hq : q < T) (hd : sk_df c a q (nI n)) (hlq : ∀ r, r < q → ¬ sk_df c a r (nI n)) (h28 : c q ≠ 26) (hD : D < 16) (h : post (nI T, tr, ep, nI (D + 1), nI E, nI l, nI t, c, a, upd stk D (nI (sk_vs c q)), em, ce, upd po l (nI (p + 1)), yc, ye)) : wpY_carryOut post (nI T, tr, ep, nI (D), nI E, nI l, nI t, c, a, stk, em, ce, po, yc, ye) (nI p) := by
  refine ⟨vp_in_nI (n := p) (by omega) (by decide), ?_⟩
  rw [nI_clamp (n := p) (by omega), hc]
  refine nm_e ?_
  refine br_f (by decide) ?_
  refine sy_cwV h80 hp hq hc ha hd hlq h28 ?_
  refine br_t rfl (br_t rfl ⟨vp_in_nI (n := p) (by omega) (by decide), ?_⟩)
  rw [ha]
  refine sy_dfS h80 hq hd hlq ?_
  refine sy_vars (by omega) ?_
  refine sy_push hD ?_
  refine ⟨vp_in_nI (n := l) (by omega) (by decide), ?_⟩
  rw [nI_clamp (n := l) (by omega), nI_1]
  exact nm_e h
theorem yc_15W {post : SY → Prop} {q n : Nat} (h80 : T ≤ 80) (hp : p < T) (hl : l < 7) (hc : c p = 15) (ha : a p = nI n) (hq : q < T) (hd : sk_df c a q (nI n)) (hlq : ∀ r, r < q → ¬ sk_df c a r (nI n)) (h26 : c q = 26) (h : post (nI T, tr, ep, nI (D), nI E, nI (l + 1), nI (t + 1), c, a, stk, em, ce, upd (upd po l (nI (p + 1))) (l + 1) (nI (q + 1)), yc, ye)) : wpY_carryOut post (nI T, tr, ep, nI (D), nI E, nI l, nI t, c, a, stk, em, ce, po, yc, ye) (nI p) := by
  refine ⟨vp_in_nI (n := p) (by omega) (by decide), ?_⟩
  rw [nI_clamp (n := p) (by omega), hc]
  refine nm_e ?_
  refine br_f (by decide) ?_
  refine sy_cwW h80 hp hq hc ha hd hlq h26 ?_
  refine br_f (by decide) (nm_r (nI_1 t) ⟨vp_in_nI (n := l) (by omega) (by decide), ?_⟩)
  rw [nI_clamp (n := l) (by omega), nI_1]
  refine nm_e (nm_r (nI_1 l) ⟨vp_in_nI (n := p) (by omega) (by decide), ?_⟩)
  rw [ha]
  refine sy_dfS h80 hq hd hlq ?_
  refine ⟨vp_in_nI (n := l + 1) (by omega) (by decide), ?_⟩
  rw [nI_clamp (n := l + 1) (by omega), nI_1]
  exact nm_e h
theorem yc_25 {post : SY → Prop} {q : Nat} (hp : p < 80) (hl : l ≤ 7) (hc : c p = 25) (hq : q < 80) (hf : sk_fn c 23 (sk_R c p) = nI q) (hD : D < 16) (h : post (nI T, tr, ep, nI (D + 1), nI E, nI l, nI t, c, a, upd stk D (yc (80 * l + q)), em, ce, upd po l (nI (p + 1)), yc, ye)) : wpY_carryOut post (nI T, tr, ep, nI (D), nI E, nI l, nI t, c, a, stk, em, ce, po, yc, ye) (nI p) := by
  refine ⟨vp_in_nI (n := p) hp (by decide), ?_⟩
  rw [nI_clamp (n := p) (by omega), hc]
  refine nm_e ?_
  refine br_f (by decide) ?_
  refine sy_cwN hp (by rw [hc]; decide) ?_
  refine br_t rfl (br_f (by decide) (br_t rfl ?_))
  refine sy_around (by omega) ?_
  rw [hf]
  refine br_t (nI_pos' (by omega)) ?_
  rw [show (80 : Int32) * nI l = nI (80 * l) from pk_mul 80 l, nI_add]
  refine ⟨vp_in_nI (n := 80 * l + q) (by omega) (by decide), ?_⟩
  rw [nI_clamp (n := 80 * l + q) (by omega)]
  unfold wY_carryOut_181
  refine sy_push hD ?_
  refine ⟨vp_in_nI (n := l) (by omega) (by decide), ?_⟩
  rw [nI_clamp (n := l) (by omega), nI_1]
  exact nm_e h
end
end
section
theorem sk_R6 {c a : Nat → Int32} : ∀ {p : Nat}, (∀ q, q < p → sk_Tk c a q) → (sk_R c p).length ≤ 6
  | 0, _ => Nat.zero_le _
  | p + 1, h => by
    have ih := sk_R6 (p := p) (fun q hq => h q (by omega))
    by_cases h1 : sk_op (c p)
    · rw [sk_Rop h1, List.length_cons]
      have hi : sk_in c p = 1 := by
        rcases sk_in01 c p with y | y
        · have := ((h p (by omega)).1 y).1
          rcases h1 with z | z | z <;> rw [z] at this <;> exact absurd this (by decide)
        · exact y
      have := ((h p (by omega)).2 hi).2.2.1 h1
      omega
    · by_cases h2 : sk_cl (c p)
      · rw [sk_Rcl h2, List.length_tail]; omega
      · by_cases h3 : c p = 17 ∨ c p = 21
        · rw [sk_Rch h3]
          revert ih
          cases sk_R c p with
          | nil => exact fun ih => ih
          | cons x t => exact fun ih => ih
        · by_cases h4 : c p = 26
          · rw [sk_R26 h4]; exact Nat.zero_le _
          · rw [sk_Rpl h1 h2 h3 h4]; exact ih
theorem sk_HIlen {c : Nat → Int32} {p : Nat} {x : Nat × Nat} : ∀ {L : List (Nat × Nat)}, sk_HI c p L → x ∈ L → (sk_R c x.1).length < L.length
  | [], _, h => by cases h
  | (q, k) :: t, ⟨h1, _, _, _, _, _, _, _, h9⟩, h => by
    rw [List.length_cons]
    rcases List.mem_cons.mp h with h | h
    · subst h
      show (sk_R c q).length < _
      rw [h1]; omega
    · have := sk_HIlen h9 h
      omega
def sk_sm (po : Nat → Int32) : Nat → Nat
  | 0 => 0
  | l + 1 => sk_sm po l + (80 - (po l).toNatClampNeg)
theorem sk_smu (po : Nat → Int32) (j : Nat) (x : Int32) : ∀ l, l ≤ j → sk_sm (upd po j x) l = sk_sm po l
  | 0, _ => rfl
  | l + 1, h => by rw [sk_sm, sk_sm, sk_smu po j x l (by omega), pk_un (by omega)]
def sk_CN (c ct cm yc ye : Nat → Int32) (l p : Nat) : Prop :=
  ∀ x, x ∈ sk_R c p → c x.1 = 23 → ct (l * 6 + (sk_R c x.1).length) = yc (80 * l + x.1) ∧ cm (l * 6 + (sk_R c x.1).length) = ye (80 * l + x.1)
def sk_F (T : Nat) (c ct cm yc ye po : Nat → Int32) (l p : Nat) : Prop := p < T ∧ sk_in c p = 1 ∧ po l = nI p ∧ sk_CN c ct cm yc ye l p
def sk_K (T : Nat) (c : Nat → Int32) (D E p t l : Nat) (rp ct cm po yc ye : Nat → Int32) : Prop :=
  D ≤ 16 ∧ E ≤ 16 ∧ t ≤ 200 ∧ l ≤ 7 ∧ sk_F T c ct cm yc ye po l p ∧ ∀ j, j < l → ∃ p', sk_F T c ct cm yc ye po j p' ∧ rp (j + 1) = nI p'
def sk_M (po : Nat → Int32) (l t : Nat) : Nat := sk_sm po (l + 1) + 80 * (200 - t)
section
variable {T : Nat} {c a nm nv jm cp rp ct cm po yc ye ct' cm' yc' ye' : Nat → Int32} {vc : Int32} {D E D' E' p p' t t' l : Nat}
theorem sk_nx (G : sk_G T c a nm nv vc jm cp) (hp : p < T) (hi : sk_in c p = 1) (h27 : c p ≠ 27) : p + 1 < T ∧ sk_in c (p + 1) = 1 := by
  have O := (G.1 p hp).2 hi
  have e : sk_in c (p + 1) = 1 := by rw [sk_inS O.1.2.2 h27]; exact hi
  refine ⟨?_, e⟩
  by_cases y : p + 1 = T
  · rw [y, G.2.1] at e
    exact absurd e (by decide)
  · omega
theorem sk_lt (G : sk_G T c a nm nv vc jm cp) (hp : p ≤ T) (hi : sk_in c p = 1) : p < T := by
  by_cases y : p = T
  · rw [y, G.2.1] at hi
    exact absurd hi (by decide)
  · omega
/-- a move within a word -/
theorem sk_Kv (h80 : T ≤ 80) (G : sk_G T c a nm nv vc jm cp) (K : sk_K T c D E p t l rp ct cm po yc ye) (hD : D' ≤ 16) (hE : E' ≤ 16) (hp : p' < T) (hi : sk_in c p' = 1) (ht : (t' = t ∧ p < p') ∨ (t' = t + 1 ∧ t < 200))
    (hC : sk_CN c ct' cm' yc' ye' l p') (hj : ∀ j, j < l → (∀ n, n < 6 → ct' (j * 6 + n) = ct (j * 6 + n) ∧ cm' (j * 6 + n) = cm (j * 6 + n)) ∧ (∀ n, n < 80 → yc' (80 * j + n) = yc (80 * j + n) ∧ ye' (80 * j + n) = ye (80 * j + n))) :
    sk_K T c D' E' p' t' l rp ct' cm' (upd po l (nI p')) yc' ye' ∧ sk_M (upd po l (nI p')) l t' < sk_M po l t := by
  obtain ⟨k1, k2, k3, k4, ⟨f1, f2, f3, f4⟩, k6⟩ := K
  refine ⟨⟨hD, hE, by omega, k4, ⟨hp, hi, pk_us, hC⟩, ?_⟩, ?_⟩
  · intro j hjl
    obtain ⟨q, ⟨q1, q2, q3, q4⟩, q5⟩ := k6 j hjl
    refine ⟨q, ⟨q1, q2, by rw [pk_un (by omega)]; exact q3, ?_⟩, q5⟩
    intro x hx hc
    have TT : ∀ r, r < q → sk_Tk c a r := fun r hr => G.1 r (by omega)
    have H := (sk_HIa TT).1
    have l6 := sk_R6 TT
    have b1 := sk_HIlen H hx
    have b2 := sk_HIlt H hx
    obtain ⟨e1, e2⟩ := hj j hjl
    obtain ⟨e3, e4⟩ := e1 (sk_R c x.1).length (by omega)
    obtain ⟨e5, e6⟩ := e2 x.1 (by omega)
    rw [e3, e4, e5, e6]
    exact q4 x hx hc
  · unfold sk_M
    rw [sk_sm, sk_sm, sk_smu po l _ l (Nat.le_refl _), pk_us, f3, nI_clamp (n := p) (by omega), nI_clamp (n := p') (by omega)]
    omega
/-- .. that touches no count -/
theorem sk_Ka (h80 : T ≤ 80) (G : sk_G T c a nm nv vc jm cp) (K : sk_K T c D E p t l rp ct cm po yc ye) (hD : D' ≤ 16) (hE : E' ≤ 16) (hp : p' < T) (hi : sk_in c p' = 1) (ht : (t' = t ∧ p < p') ∨ (t' = t + 1 ∧ t < 200))
    (hC : ∀ x, x ∈ sk_R c p' → c x.1 = 23 → ∃ k, (x.1, k) ∈ sk_R c p) :
    sk_K T c D' E' p' t' l rp ct cm (upd po l (nI p')) yc ye ∧ sk_M (upd po l (nI p')) l t' < sk_M po l t := by
  refine sk_Kv h80 G K hD hE hp hi ht ?_ (fun j hj => ⟨fun n hn => ⟨rfl, rfl⟩, fun n hn => ⟨rfl, rfl⟩⟩)
  intro x hx hc
  obtain ⟨k, hk⟩ := hC x hx hc
  exact K.2.2.2.2.1.2.2.2 (x.1, k) hk hc
/-- .. to the next token -/
theorem sk_Kn (h80 : T ≤ 80) (G : sk_G T c a nm nv vc jm cp) (K : sk_K T c D E p t l rp ct cm po yc ye) (hD : D' ≤ 16) (hE : E' ≤ 16) (ht : t' = t) (h27 : c p ≠ 27) (hC : ∀ x, x ∈ sk_R c (p + 1) → c x.1 = 23 → ∃ k, (x.1, k) ∈ sk_R c p) :
    sk_K T c D' E' (p + 1) t' l rp ct cm (upd po l (nI (p + 1))) yc ye ∧ sk_M (upd po l (nI (p + 1))) l t' < sk_M po l t := by
  have n := sk_nx G K.2.2.2.2.1.1 K.2.2.2.2.1.2.1 h27
  exact sk_Ka h80 G K hD hE n.1 n.2 (Or.inl ⟨ht, by omega⟩) hC
theorem sk_Sp (h : sk_R c (p + 1) = sk_R c p) : ∀ x, x ∈ sk_R c (p + 1) → c x.1 = 23 → ∃ k, (x.1, k) ∈ sk_R c p := by
  intro x hx _
  rw [h] at hx
  exact ⟨x.2, hx⟩
theorem sk_Sc (h : sk_cl (c p)) : ∀ x, x ∈ sk_R c (p + 1) → c x.1 = 23 → ∃ k, (x.1, k) ∈ sk_R c p := by
  intro x hx _
  rw [sk_Rcl h] at hx
  exact ⟨x.2, List.mem_of_mem_tail hx⟩
theorem sk_So (h : sk_op (c p)) (h' : c p ≠ 23) : ∀ x, x ∈ sk_R c (p + 1) → c x.1 = 23 → ∃ k, (x.1, k) ∈ sk_R c p := by
  intro x hx hc
  rw [sk_Rop h] at hx
  rcases List.mem_cons.mp hx with y | y
  · subst y; exact absurd hc h'
  · exact ⟨x.2, y⟩
theorem sk_Sh (h : c p = 17 ∨ c p = 21) : ∀ x, x ∈ sk_R c (p + 1) → c x.1 = 23 → ∃ k, (x.1, k) ∈ sk_R c p := by
  intro x hx hc
  rw [sk_Rch h] at hx
  revert hx
  cases sk_R c p with
  | nil => intro hx; cases hx
  | cons y t =>
    obtain ⟨q, k⟩ := y
    intro hx
    rcases List.mem_cons.mp hx with z | z
    · subst z; exact ⟨k, List.mem_cons_self ..⟩
    · exact ⟨x.2, List.mem_cons_of_mem _ z⟩
/-- back to the first token of a part -/
theorem sk_Sb {s k : Nat} {u : List (Nat × Nat)} (TT : ∀ q, q < p → sk_Tk c a q) (hR : sk_R c p = (s, k) :: u) : s < p ∧ sk_in c (s + 1) = 1 ∧ sk_R c s = u ∧ (c k = 23 ↔ c s = 23) ∧ ∀ x, x ∈ sk_R c (s + 1) → c x.1 = 23 → ∃ k, (x.1, k) ∈ sk_R c p := by
  have H := (sk_HIa TT).1
  rw [hR] at H
  obtain ⟨h1, h2, h3, h4, h5, h6, h7, h8, h9⟩ := H
  refine ⟨h2, h5, h1, h8, ?_⟩
  intro x hx hc
  rw [sk_Rop h6, h1] at hx
  rw [hR]
  rcases List.mem_cons.mp hx with z | z
  · subst z; exact ⟨k, List.mem_cons_self ..⟩
  · exact ⟨x.2, List.mem_cons_of_mem _ z⟩
/-- TIMES -/
theorem sk_Kt (h80 : T ≤ 80) (G : sk_G T c a nm nv vc jm cp) (K : sk_K T c D E p t l rp ct cm po yc ye) (hD : D' ≤ 16) (h23 : c p = 23) {x : Int32} :
    sk_K T c D' E (p + 1) t l rp (upd ct (l * 6 + (sk_R c p).length) 0) (upd cm (l * 6 + (sk_R c p).length) x) (upd po l (nI (p + 1))) (upd yc (80 * l + p) 0) (upd ye (80 * l + p) x) ∧ sk_M (upd po l (nI (p + 1))) l t < sk_M po l t := by
  have hp := K.2.2.2.2.1.1
  have n := sk_nx G hp K.2.2.2.2.1.2.1 (by rw [h23]; decide)
  have TT : ∀ q, q < p → sk_Tk c a q := fun q hq => G.1 q (by omega)
  have H := (sk_HIa TT).1
  refine sk_Kv h80 G K hD K.2.1 n.1 n.2 (Or.inl ⟨rfl, by omega⟩) ?_ (fun j hj => ⟨fun n hn => ⟨pk_un (by omega), pk_un (by omega)⟩, fun n hn => ⟨pk_un (by omega), pk_un (by omega)⟩⟩)
  intro y hy hc
  rw [sk_Rop (by rw [h23]; decide)] at hy
  rcases List.mem_cons.mp hy with z | z
  · subst z
    show upd ct _ 0 (l * 6 + (sk_R c p).length) = upd yc _ 0 (80 * l + p) ∧ upd cm _ x (l * 6 + (sk_R c p).length) = upd ye _ x (80 * l + p)
    rw [pk_us, pk_us, pk_us, pk_us]
    exact ⟨rfl, rfl⟩
  · have b1 := sk_HIlen H z
    have b2 := sk_HIlt H z
    rw [pk_un (by omega), pk_un (by omega), pk_un (by omega), pk_un (by omega)]
    exact K.2.2.2.2.1.2.2.2 y z hc
theorem sk_Ku (h80 : T ≤ 80) (G : sk_G T c a nm nv vc jm cp) (K : sk_K T c D E p t l rp ct cm po yc ye) (hD : D' ≤ 16) (hp' : p' < T) (hi : sk_in c p' = 1) (hpp : p < p') (hC : ∀ x, x ∈ sk_R c p' → c x.1 = 23 → ∃ k, (x.1, k) ∈ sk_R c p) {x y : Int32} :
    sk_K T c D' E p' t l rp ct cm (upd po l (nI p')) (upd yc (80 * l + p) x) (upd ye (80 * l + p) y) ∧ sk_M (upd po l (nI p')) l t < sk_M po l t := by
  have hp := K.2.2.2.2.1.1
  have TT : ∀ q, q < p → sk_Tk c a q := fun q hq => G.1 q (by omega)
  have H := (sk_HIa TT).1
  refine sk_Kv h80 G K hD K.2.1 hp' hi (Or.inl ⟨rfl, hpp⟩) ?_ (fun j hj => ⟨fun n hn => ⟨rfl, rfl⟩, fun n hn => ⟨pk_un (by omega), pk_un (by omega)⟩⟩)
  intro z hz hc
  obtain ⟨k, hk⟩ := hC z hz hc
  have b2 : z.1 < p := sk_HIlt (x := (z.1, k)) H hk
  rw [pk_un (by omega), pk_un (by omega)]
  exact K.2.2.2.2.1.2.2.2 (z.1, k) hk hc
/-- NEXT -/
theorem sk_Kx (h80 : T ≤ 80) (G : sk_G T c a nm nv vc jm cp) (K : sk_K T c D E p t l rp ct cm po yc ye) (ht : t < 200) {s k : Nat} {u : List (Nat × Nat)} (hR : sk_R c p = (s, k) :: u) (hs : sk_R c s = u) (hp' : p' < T) (hi : sk_in c p' = 1) (hC : ∀ x, x ∈ sk_R c p' → c x.1 = 23 → ∃ k, (x.1, k) ∈ sk_R c p) {x : Int32} :
    sk_K T c D E p' (t + 1) l rp (upd ct (l * 6 + u.length) x) cm (upd po l (nI p')) (upd yc (80 * l + s) x) ye ∧ sk_M (upd po l (nI p')) l (t + 1) < sk_M po l t := by
  have hp := K.2.2.2.2.1.1
  have TT : ∀ q, q < p → sk_Tk c a q := fun q hq => G.1 q (by omega)
  have H := (sk_HIa TT).1
  refine sk_Kv h80 G K K.1 K.2.1 hp' hi (Or.inr ⟨rfl, ht⟩) ?_ (fun j hj => ⟨fun n hn => ⟨pk_un (by omega), rfl⟩, fun n hn => ⟨pk_un (by omega), rfl⟩⟩)
  intro z hz hc
  obtain ⟨k', hk⟩ := hC z hz hc
  have old := K.2.2.2.2.1.2.2.2 (z.1, k') hk hc
  by_cases e : z.1 = s
  · rw [e, hs, pk_us, pk_us]
    have old : ct (l * 6 + (sk_R c z.1).length) = yc (80 * l + z.1) ∧ cm (l * 6 + (sk_R c z.1).length) = ye (80 * l + z.1) := old
    rw [e, hs] at old
    exact ⟨rfl, old.2⟩
  · have : (z.1, k') ∈ u := by
      rw [hR] at hk
      rcases List.mem_cons.mp hk with w | w
      · exact absurd (congrArg Prod.fst w) e
      · exact w
    rw [hR] at H
    have b1 : (sk_R c z.1).length < u.length := sk_HIlen (x := (z.1, k')) H.2.2.2.2.2.2.2.2 this
    rw [pk_un (by omega), pk_un (by omega)]
    exact old
/-- a word is called -/
theorem sk_Kc (h80 : T ≤ 80) (G : sk_G T c a nm nv vc jm cp) (K : sk_K T c D E p t l rp ct cm po yc ye) (ht : t < 200) (hl : l < 7) (h15 : c p = 15) {q : Nat} (hq : q < T) (h26 : c q = 26) :
    sk_K T c D E (q + 1) (t + 1) (l + 1) (upd rp (l + 1) (nI (p + 1))) ct cm (upd (upd po l (nI (p + 1))) (l + 1) (nI (q + 1))) yc ye ∧ sk_M (upd (upd po l (nI (p + 1))) (l + 1) (nI (q + 1))) (l + 1) (t + 1) < sk_M po l t := by
  obtain ⟨k1, k2, k3, k4, ⟨f1, f2, f3, f4⟩, k6⟩ := K
  have i26 := sk_in26 h26
  have q1 := sk_lt G (p := q + 1) (by omega) i26
  have n := sk_nx G f1 f2 (by rw [h15]; decide)
  have eR : sk_R c (p + 1) = sk_R c p := sk_Rpl (by rw [h15]; decide) (by rw [h15]; decide) (by rw [h15]; decide) (by rw [h15]; decide)
  refine ⟨⟨k1, k2, by omega, by omega, ⟨q1, i26, pk_us, ?_⟩, ?_⟩, ?_⟩
  · intro x hx
    rw [sk_R26 h26] at hx
    cases hx
  · intro j hj
    by_cases e : j = l
    · subst e
      refine ⟨p + 1, ⟨n.1, n.2, by rw [pk_un (by omega), pk_us], ?_⟩, pk_us⟩
      intro x hx hc
      rw [eR] at hx
      exact f4 x hx hc
    · obtain ⟨r, ⟨r1, r2, r3, r4⟩, r5⟩ := k6 j (by omega)
      exact ⟨r, ⟨r1, r2, by rw [pk_un (by omega), pk_un (by omega)]; exact r3, r4⟩, by rw [pk_un (by omega)]; exact r5⟩
  · unfold sk_M
    rw [sk_sm, sk_sm, sk_sm, sk_smu _ (l + 1) _ l (by omega), sk_smu po l _ l (Nat.le_refl _), pk_us, pk_un (j := l) (k := l + 1) (by omega), pk_us, f3, nI_clamp (n := p) (by omega), nI_clamp (n := p + 1) (by omega), nI_clamp (n := q + 1) (by omega)]
    omega
/-- a word ends -/
theorem sk_Ke (h80 : T ≤ 80) (K : sk_K T c D E p t (l + 1) rp ct cm po yc ye) : ∃ p', rp (l + 1) = nI p' ∧ sk_K T c D E p' t l rp ct cm po yc ye ∧ sk_M po l t < sk_M po (l + 1) t := by
  obtain ⟨k1, k2, k3, k4, ⟨f1, f2, f3, f4⟩, k6⟩ := K
  obtain ⟨r, rF, r5⟩ := k6 l (by omega)
  refine ⟨r, r5, ⟨k1, k2, k3, by omega, rF, fun j hj => k6 j (by omega)⟩, ?_⟩
  unfold sk_M
  have e : sk_sm po (l + 1 + 1) = sk_sm po (l + 1) + (80 - (po (l + 1)).toNatClampNeg) := rfl
  rw [e, f3, nI_clamp (n := p) (by omega)]
  omega
end
end
section
section
variable {xT tr ep ind vc pc xD xE cur tu ca yT yD yE lv yt : Int32} {c a nm nv ps pst psk jm cp stk em ce rp ct cm po yc ye : Nat → Int32}
variable {T D E p t l : Nat}
theorem ss_0 (h80 : T ≤ 80) (G : sk_G T c a nm nv (nI (sk_vs c T)) jm cp) (K : sk_K T c D E p t l rp ct cm po yc ye) (hc : c p = 0) : ∃ e : Int32, (∀ post : Int32 → Prop, post e → wpX_whyStop post (xT, tr, ep, ind, nI (sk_vs c T), pc, nI D, nI E, nI p, nI t, nI (l + 1), c, a, nm, nv, ps, pst, psk, jm, cp, stk, em, ce, rp, ct, cm)) ∧ (∀ post : Int32 → Prop, post e → wpY_obstacle post (nI T, tr, ep, nI D, nI E, nI l, nI t, c, a, stk, em, ce, po, yc, ye) (nI p)) ∧ (e = 0 →
    (∃ (D1 E1 p1 t1 l1 : Nat) (stk1 em1 ce1 rp1 ct1 cm1 po1 yc1 ye1 : Nat → Int32), (∀ post : SX → Prop, post (xT, tr, ep, ind, nI (sk_vs c T), pc, nI D1, nI E1, nI p1, nI t1, nI (l1 + 1), c, a, nm, nv, ps, pst, psk, jm, cp, stk1, em1, ce1, rp1, ct1, cm1) → wpX_carryOut post (xT, tr, ep, ind, nI (sk_vs c T), pc, nI D, nI E, nI p, nI t, nI (l + 1), c, a, nm, nv, ps, pst, psk, jm, cp, stk, em, ce, rp, ct, cm)) ∧ (∀ post : SY → Prop, post (nI T, tr, ep, nI D1, nI E1, nI l1, nI t1, c, a, stk1, em1, ce1, po1, yc1, ye1) → wpY_carryOut post (nI T, tr, ep, nI D, nI E, nI l, nI t, c, a, stk, em, ce, po, yc, ye) (nI p)) ∧ sk_K T c D1 E1 p1 t1 l1 rp1 ct1 cm1 po1 yc1 ye1 ∧ sk_M po1 l1 t1 < sk_M po l t)
    ∨ (∃ cur1 : Int32, (∀ post : SX → Prop, post (xT, tr, ep, ind, nI (sk_vs c T), pc, nI D, nI E, cur1, nI t, nI 0, c, a, nm, nv, ps, pst, psk, jm, cp, stk, em, ce, rp, ct, cm) → wpX_carryOut post (xT, tr, ep, ind, nI (sk_vs c T), pc, nI D, nI E, nI p, nI t, nI (l + 1), c, a, nm, nv, ps, pst, psk, jm, cp, stk, em, ce, rp, ct, cm)) ∧ (∀ post : SY → Prop, post (nI T, tr, ep, nI D, nI E, nI 0 - 1, nI t, c, a, stk, em, ce, po, yc, ye) → wpY_carryOut post (nI T, tr, ep, nI D, nI E, nI l, nI t, c, a, stk, em, ce, po, yc, ye) (nI p)))) := by
  have hp := K.2.2.2.2.1.1
  have hl := K.2.2.2.1
  have hi := K.2.2.2.2.1.2.1
  have O := (G.1 p hp).2 hi
  obtain ⟨e, wX, wY, wF⟩ := sw_0 (xT := xT) (tr := tr) (ep := ep) (ind := ind) (pc := pc) (a := a) (nm := nm) (nv := nv) (ps := ps) (pst := pst) (psk := psk) (jm := jm) (cp := cp) (stk := stk) (em := em) (ce := ce) (rp := rp) (ct := ct) (cm := cm) (po := po) (yc := yc) (ye := ye) h80 hp K.1 K.2.1 K.2.2.1 hl G.2.2.2.1 hc
  refine ⟨e, wX, wY, fun he => ?_⟩
  obtain ⟨F1, F2⟩ := wF he
  clear wX wY wF
  have hD := K.1
  have hE := K.2.1
  exact Or.inl ⟨D + 1, E, p + 1, t, l, _, _, _, _, _, _, _, _, _, fun post h => xc_0 (by omega) hc (by omega) h, fun post h => yc_0 (by omega) (by omega) hc (by omega) h, sk_Kn h80 G K (by omega) (by omega) rfl (by rw [hc]; decide) (sk_Sp (sk_Rpl (by rw [hc]; decide) (by rw [hc]; decide) (by rw [hc]; decide) (by rw [hc]; decide)))⟩
theorem ss_1 (h80 : T ≤ 80) (G : sk_G T c a nm nv (nI (sk_vs c T)) jm cp) (K : sk_K T c D E p t l rp ct cm po yc ye) (hc : c p = 1) : ∃ e : Int32, (∀ post : Int32 → Prop, post e → wpX_whyStop post (xT, tr, ep, ind, nI (sk_vs c T), pc, nI D, nI E, nI p, nI t, nI (l + 1), c, a, nm, nv, ps, pst, psk, jm, cp, stk, em, ce, rp, ct, cm)) ∧ (∀ post : Int32 → Prop, post e → wpY_obstacle post (nI T, tr, ep, nI D, nI E, nI l, nI t, c, a, stk, em, ce, po, yc, ye) (nI p)) ∧ (e = 0 →
    (∃ (D1 E1 p1 t1 l1 : Nat) (stk1 em1 ce1 rp1 ct1 cm1 po1 yc1 ye1 : Nat → Int32), (∀ post : SX → Prop, post (xT, tr, ep, ind, nI (sk_vs c T), pc, nI D1, nI E1, nI p1, nI t1, nI (l1 + 1), c, a, nm, nv, ps, pst, psk, jm, cp, stk1, em1, ce1, rp1, ct1, cm1) → wpX_carryOut post (xT, tr, ep, ind, nI (sk_vs c T), pc, nI D, nI E, nI p, nI t, nI (l + 1), c, a, nm, nv, ps, pst, psk, jm, cp, stk, em, ce, rp, ct, cm)) ∧ (∀ post : SY → Prop, post (nI T, tr, ep, nI D1, nI E1, nI l1, nI t1, c, a, stk1, em1, ce1, po1, yc1, ye1) → wpY_carryOut post (nI T, tr, ep, nI D, nI E, nI l, nI t, c, a, stk, em, ce, po, yc, ye) (nI p)) ∧ sk_K T c D1 E1 p1 t1 l1 rp1 ct1 cm1 po1 yc1 ye1 ∧ sk_M po1 l1 t1 < sk_M po l t)
    ∨ (∃ cur1 : Int32, (∀ post : SX → Prop, post (xT, tr, ep, ind, nI (sk_vs c T), pc, nI D, nI E, cur1, nI t, nI 0, c, a, nm, nv, ps, pst, psk, jm, cp, stk, em, ce, rp, ct, cm) → wpX_carryOut post (xT, tr, ep, ind, nI (sk_vs c T), pc, nI D, nI E, nI p, nI t, nI (l + 1), c, a, nm, nv, ps, pst, psk, jm, cp, stk, em, ce, rp, ct, cm)) ∧ (∀ post : SY → Prop, post (nI T, tr, ep, nI D, nI E, nI 0 - 1, nI t, c, a, stk, em, ce, po, yc, ye) → wpY_carryOut post (nI T, tr, ep, nI D, nI E, nI l, nI t, c, a, stk, em, ce, po, yc, ye) (nI p)))) := by
  have hp := K.2.2.2.2.1.1
  have hl := K.2.2.2.1
  have hi := K.2.2.2.2.1.2.1
  have O := (G.1 p hp).2 hi
  obtain ⟨e, wX, wY, wF⟩ := sw_1 (xT := xT) (tr := tr) (ep := ep) (ind := ind) (pc := pc) (a := a) (nm := nm) (nv := nv) (ps := ps) (pst := pst) (psk := psk) (jm := jm) (cp := cp) (stk := stk) (em := em) (ce := ce) (rp := rp) (ct := ct) (cm := cm) (po := po) (yc := yc) (ye := ye) h80 hp K.1 K.2.1 K.2.2.1 hl G.2.2.2.1 hc
  refine ⟨e, wX, wY, fun he => ?_⟩
  obtain ⟨F1, F2⟩ := wF he
  clear wX wY wF
  obtain ⟨d, rfl⟩ : ∃ d, D = d + 2 := ⟨D - 2, by omega⟩
  have hD := K.1
  have hE := K.2.1
  exact Or.inl ⟨d + 1, E, p + 1, t, l, _, _, _, _, _, _, _, _, _, fun post h => xc_1 (by omega) hc (by omega) h, fun post h => yc_1 (by omega) (by omega) hc (by omega) h, sk_Kn h80 G K (by omega) (by omega) rfl (by rw [hc]; decide) (sk_Sp (sk_Rpl (by rw [hc]; decide) (by rw [hc]; decide) (by rw [hc]; decide) (by rw [hc]; decide)))⟩
theorem ss_2 (h80 : T ≤ 80) (G : sk_G T c a nm nv (nI (sk_vs c T)) jm cp) (K : sk_K T c D E p t l rp ct cm po yc ye) (hc : c p = 2) : ∃ e : Int32, (∀ post : Int32 → Prop, post e → wpX_whyStop post (xT, tr, ep, ind, nI (sk_vs c T), pc, nI D, nI E, nI p, nI t, nI (l + 1), c, a, nm, nv, ps, pst, psk, jm, cp, stk, em, ce, rp, ct, cm)) ∧ (∀ post : Int32 → Prop, post e → wpY_obstacle post (nI T, tr, ep, nI D, nI E, nI l, nI t, c, a, stk, em, ce, po, yc, ye) (nI p)) ∧ (e = 0 →
    (∃ (D1 E1 p1 t1 l1 : Nat) (stk1 em1 ce1 rp1 ct1 cm1 po1 yc1 ye1 : Nat → Int32), (∀ post : SX → Prop, post (xT, tr, ep, ind, nI (sk_vs c T), pc, nI D1, nI E1, nI p1, nI t1, nI (l1 + 1), c, a, nm, nv, ps, pst, psk, jm, cp, stk1, em1, ce1, rp1, ct1, cm1) → wpX_carryOut post (xT, tr, ep, ind, nI (sk_vs c T), pc, nI D, nI E, nI p, nI t, nI (l + 1), c, a, nm, nv, ps, pst, psk, jm, cp, stk, em, ce, rp, ct, cm)) ∧ (∀ post : SY → Prop, post (nI T, tr, ep, nI D1, nI E1, nI l1, nI t1, c, a, stk1, em1, ce1, po1, yc1, ye1) → wpY_carryOut post (nI T, tr, ep, nI D, nI E, nI l, nI t, c, a, stk, em, ce, po, yc, ye) (nI p)) ∧ sk_K T c D1 E1 p1 t1 l1 rp1 ct1 cm1 po1 yc1 ye1 ∧ sk_M po1 l1 t1 < sk_M po l t)
    ∨ (∃ cur1 : Int32, (∀ post : SX → Prop, post (xT, tr, ep, ind, nI (sk_vs c T), pc, nI D, nI E, cur1, nI t, nI 0, c, a, nm, nv, ps, pst, psk, jm, cp, stk, em, ce, rp, ct, cm) → wpX_carryOut post (xT, tr, ep, ind, nI (sk_vs c T), pc, nI D, nI E, nI p, nI t, nI (l + 1), c, a, nm, nv, ps, pst, psk, jm, cp, stk, em, ce, rp, ct, cm)) ∧ (∀ post : SY → Prop, post (nI T, tr, ep, nI D, nI E, nI 0 - 1, nI t, c, a, stk, em, ce, po, yc, ye) → wpY_carryOut post (nI T, tr, ep, nI D, nI E, nI l, nI t, c, a, stk, em, ce, po, yc, ye) (nI p)))) := by
  have hp := K.2.2.2.2.1.1
  have hl := K.2.2.2.1
  have hi := K.2.2.2.2.1.2.1
  have O := (G.1 p hp).2 hi
  obtain ⟨e, wX, wY, wF⟩ := sw_2 (xT := xT) (tr := tr) (ep := ep) (ind := ind) (pc := pc) (a := a) (nm := nm) (nv := nv) (ps := ps) (pst := pst) (psk := psk) (jm := jm) (cp := cp) (stk := stk) (em := em) (ce := ce) (rp := rp) (ct := ct) (cm := cm) (po := po) (yc := yc) (ye := ye) h80 hp K.1 K.2.1 K.2.2.1 hl G.2.2.2.1 hc
  refine ⟨e, wX, wY, fun he => ?_⟩
  obtain ⟨F1, F2⟩ := wF he
  clear wX wY wF
  obtain ⟨d, rfl⟩ : ∃ d, D = d + 2 := ⟨D - 2, by omega⟩
  have hD := K.1
  have hE := K.2.1
  exact Or.inl ⟨d + 1, E, p + 1, t, l, _, _, _, _, _, _, _, _, _, fun post h => xc_2 (by omega) hc (by omega) h, fun post h => yc_2 (by omega) (by omega) hc (by omega) h, sk_Kn h80 G K (by omega) (by omega) rfl (by rw [hc]; decide) (sk_Sp (sk_Rpl (by rw [hc]; decide) (by rw [hc]; decide) (by rw [hc]; decide) (by rw [hc]; decide)))⟩
theorem ss_3 (h80 : T ≤ 80) (G : sk_G T c a nm nv (nI (sk_vs c T)) jm cp) (K : sk_K T c D E p t l rp ct cm po yc ye) (hc : c p = 3) : ∃ e : Int32, (∀ post : Int32 → Prop, post e → wpX_whyStop post (xT, tr, ep, ind, nI (sk_vs c T), pc, nI D, nI E, nI p, nI t, nI (l + 1), c, a, nm, nv, ps, pst, psk, jm, cp, stk, em, ce, rp, ct, cm)) ∧ (∀ post : Int32 → Prop, post e → wpY_obstacle post (nI T, tr, ep, nI D, nI E, nI l, nI t, c, a, stk, em, ce, po, yc, ye) (nI p)) ∧ (e = 0 →
    (∃ (D1 E1 p1 t1 l1 : Nat) (stk1 em1 ce1 rp1 ct1 cm1 po1 yc1 ye1 : Nat → Int32), (∀ post : SX → Prop, post (xT, tr, ep, ind, nI (sk_vs c T), pc, nI D1, nI E1, nI p1, nI t1, nI (l1 + 1), c, a, nm, nv, ps, pst, psk, jm, cp, stk1, em1, ce1, rp1, ct1, cm1) → wpX_carryOut post (xT, tr, ep, ind, nI (sk_vs c T), pc, nI D, nI E, nI p, nI t, nI (l + 1), c, a, nm, nv, ps, pst, psk, jm, cp, stk, em, ce, rp, ct, cm)) ∧ (∀ post : SY → Prop, post (nI T, tr, ep, nI D1, nI E1, nI l1, nI t1, c, a, stk1, em1, ce1, po1, yc1, ye1) → wpY_carryOut post (nI T, tr, ep, nI D, nI E, nI l, nI t, c, a, stk, em, ce, po, yc, ye) (nI p)) ∧ sk_K T c D1 E1 p1 t1 l1 rp1 ct1 cm1 po1 yc1 ye1 ∧ sk_M po1 l1 t1 < sk_M po l t)
    ∨ (∃ cur1 : Int32, (∀ post : SX → Prop, post (xT, tr, ep, ind, nI (sk_vs c T), pc, nI D, nI E, cur1, nI t, nI 0, c, a, nm, nv, ps, pst, psk, jm, cp, stk, em, ce, rp, ct, cm) → wpX_carryOut post (xT, tr, ep, ind, nI (sk_vs c T), pc, nI D, nI E, nI p, nI t, nI (l + 1), c, a, nm, nv, ps, pst, psk, jm, cp, stk, em, ce, rp, ct, cm)) ∧ (∀ post : SY → Prop, post (nI T, tr, ep, nI D, nI E, nI 0 - 1, nI t, c, a, stk, em, ce, po, yc, ye) → wpY_carryOut post (nI T, tr, ep, nI D, nI E, nI l, nI t, c, a, stk, em, ce, po, yc, ye) (nI p)))) := by
  have hp := K.2.2.2.2.1.1
  have hl := K.2.2.2.1
  have hi := K.2.2.2.2.1.2.1
  have O := (G.1 p hp).2 hi
  obtain ⟨e, wX, wY, wF⟩ := sw_3 (xT := xT) (tr := tr) (ep := ep) (ind := ind) (pc := pc) (a := a) (nm := nm) (nv := nv) (ps := ps) (pst := pst) (psk := psk) (jm := jm) (cp := cp) (stk := stk) (em := em) (ce := ce) (rp := rp) (ct := ct) (cm := cm) (po := po) (yc := yc) (ye := ye) h80 hp K.1 K.2.1 K.2.2.1 hl G.2.2.2.1 hc
  refine ⟨e, wX, wY, fun he => ?_⟩
  obtain ⟨F1, F2⟩ := wF he
  clear wX wY wF
  obtain ⟨d, rfl⟩ : ∃ d, D = d + 2 := ⟨D - 2, by omega⟩
  have hD := K.1
  have hE := K.2.1
  exact Or.inl ⟨d + 1, E, p + 1, t, l, _, _, _, _, _, _, _, _, _, fun post h => xc_3 (by omega) hc (by omega) h, fun post h => yc_3 (by omega) (by omega) hc (by omega) h, sk_Kn h80 G K (by omega) (by omega) rfl (by rw [hc]; decide) (sk_Sp (sk_Rpl (by rw [hc]; decide) (by rw [hc]; decide) (by rw [hc]; decide) (by rw [hc]; decide)))⟩
theorem ss_10 (h80 : T ≤ 80) (G : sk_G T c a nm nv (nI (sk_vs c T)) jm cp) (K : sk_K T c D E p t l rp ct cm po yc ye) (hc : c p = 10) : ∃ e : Int32, (∀ post : Int32 → Prop, post e → wpX_whyStop post (xT, tr, ep, ind, nI (sk_vs c T), pc, nI D, nI E, nI p, nI t, nI (l + 1), c, a, nm, nv, ps, pst, psk, jm, cp, stk, em, ce, rp, ct, cm)) ∧ (∀ post : Int32 → Prop, post e → wpY_obstacle post (nI T, tr, ep, nI D, nI E, nI l, nI t, c, a, stk, em, ce, po, yc, ye) (nI p)) ∧ (e = 0 →
    (∃ (D1 E1 p1 t1 l1 : Nat) (stk1 em1 ce1 rp1 ct1 cm1 po1 yc1 ye1 : Nat → Int32), (∀ post : SX → Prop, post (xT, tr, ep, ind, nI (sk_vs c T), pc, nI D1, nI E1, nI p1, nI t1, nI (l1 + 1), c, a, nm, nv, ps, pst, psk, jm, cp, stk1, em1, ce1, rp1, ct1, cm1) → wpX_carryOut post (xT, tr, ep, ind, nI (sk_vs c T), pc, nI D, nI E, nI p, nI t, nI (l + 1), c, a, nm, nv, ps, pst, psk, jm, cp, stk, em, ce, rp, ct, cm)) ∧ (∀ post : SY → Prop, post (nI T, tr, ep, nI D1, nI E1, nI l1, nI t1, c, a, stk1, em1, ce1, po1, yc1, ye1) → wpY_carryOut post (nI T, tr, ep, nI D, nI E, nI l, nI t, c, a, stk, em, ce, po, yc, ye) (nI p)) ∧ sk_K T c D1 E1 p1 t1 l1 rp1 ct1 cm1 po1 yc1 ye1 ∧ sk_M po1 l1 t1 < sk_M po l t)
    ∨ (∃ cur1 : Int32, (∀ post : SX → Prop, post (xT, tr, ep, ind, nI (sk_vs c T), pc, nI D, nI E, cur1, nI t, nI 0, c, a, nm, nv, ps, pst, psk, jm, cp, stk, em, ce, rp, ct, cm) → wpX_carryOut post (xT, tr, ep, ind, nI (sk_vs c T), pc, nI D, nI E, nI p, nI t, nI (l + 1), c, a, nm, nv, ps, pst, psk, jm, cp, stk, em, ce, rp, ct, cm)) ∧ (∀ post : SY → Prop, post (nI T, tr, ep, nI D, nI E, nI 0 - 1, nI t, c, a, stk, em, ce, po, yc, ye) → wpY_carryOut post (nI T, tr, ep, nI D, nI E, nI l, nI t, c, a, stk, em, ce, po, yc, ye) (nI p)))) := by
  have hp := K.2.2.2.2.1.1
  have hl := K.2.2.2.1
  have hi := K.2.2.2.2.1.2.1
  have O := (G.1 p hp).2 hi
  obtain ⟨e, wX, wY, wF⟩ := sw_10 (xT := xT) (tr := tr) (ep := ep) (ind := ind) (pc := pc) (a := a) (nm := nm) (nv := nv) (ps := ps) (pst := pst) (psk := psk) (jm := jm) (cp := cp) (stk := stk) (em := em) (ce := ce) (rp := rp) (ct := ct) (cm := cm) (po := po) (yc := yc) (ye := ye) h80 hp K.1 K.2.1 K.2.2.1 hl G.2.2.2.1 hc
  refine ⟨e, wX, wY, fun he => ?_⟩
  obtain ⟨F1, F2⟩ := wF he
  clear wX wY wF
  obtain ⟨d, rfl⟩ : ∃ d, D = d + 2 := ⟨D - 2, by omega⟩
  have hD := K.1
  have hE := K.2.1
  exact Or.inl ⟨d + 1, E, p + 1, t, l, _, _, _, _, _, _, _, _, _, fun post h => xc_10 (by omega) hc (by omega) h, fun post h => yc_10 (by omega) (by omega) hc (by omega) h, sk_Kn h80 G K (by omega) (by omega) rfl (by rw [hc]; decide) (sk_Sp (sk_Rpl (by rw [hc]; decide) (by rw [hc]; decide) (by rw [hc]; decide) (by rw [hc]; decide)))⟩
theorem ss_11 (h80 : T ≤ 80) (G : sk_G T c a nm nv (nI (sk_vs c T)) jm cp) (K : sk_K T c D E p t l rp ct cm po yc ye) (hc : c p = 11) : ∃ e : Int32, (∀ post : Int32 → Prop, post e → wpX_whyStop post (xT, tr, ep, ind, nI (sk_vs c T), pc, nI D, nI E, nI p, nI t, nI (l + 1), c, a, nm, nv, ps, pst, psk, jm, cp, stk, em, ce, rp, ct, cm)) ∧ (∀ post : Int32 → Prop, post e → wpY_obstacle post (nI T, tr, ep, nI D, nI E, nI l, nI t, c, a, stk, em, ce, po, yc, ye) (nI p)) ∧ (e = 0 →
    (∃ (D1 E1 p1 t1 l1 : Nat) (stk1 em1 ce1 rp1 ct1 cm1 po1 yc1 ye1 : Nat → Int32), (∀ post : SX → Prop, post (xT, tr, ep, ind, nI (sk_vs c T), pc, nI D1, nI E1, nI p1, nI t1, nI (l1 + 1), c, a, nm, nv, ps, pst, psk, jm, cp, stk1, em1, ce1, rp1, ct1, cm1) → wpX_carryOut post (xT, tr, ep, ind, nI (sk_vs c T), pc, nI D, nI E, nI p, nI t, nI (l + 1), c, a, nm, nv, ps, pst, psk, jm, cp, stk, em, ce, rp, ct, cm)) ∧ (∀ post : SY → Prop, post (nI T, tr, ep, nI D1, nI E1, nI l1, nI t1, c, a, stk1, em1, ce1, po1, yc1, ye1) → wpY_carryOut post (nI T, tr, ep, nI D, nI E, nI l, nI t, c, a, stk, em, ce, po, yc, ye) (nI p)) ∧ sk_K T c D1 E1 p1 t1 l1 rp1 ct1 cm1 po1 yc1 ye1 ∧ sk_M po1 l1 t1 < sk_M po l t)
    ∨ (∃ cur1 : Int32, (∀ post : SX → Prop, post (xT, tr, ep, ind, nI (sk_vs c T), pc, nI D, nI E, cur1, nI t, nI 0, c, a, nm, nv, ps, pst, psk, jm, cp, stk, em, ce, rp, ct, cm) → wpX_carryOut post (xT, tr, ep, ind, nI (sk_vs c T), pc, nI D, nI E, nI p, nI t, nI (l + 1), c, a, nm, nv, ps, pst, psk, jm, cp, stk, em, ce, rp, ct, cm)) ∧ (∀ post : SY → Prop, post (nI T, tr, ep, nI D, nI E, nI 0 - 1, nI t, c, a, stk, em, ce, po, yc, ye) → wpY_carryOut post (nI T, tr, ep, nI D, nI E, nI l, nI t, c, a, stk, em, ce, po, yc, ye) (nI p)))) := by
  have hp := K.2.2.2.2.1.1
  have hl := K.2.2.2.1
  have hi := K.2.2.2.2.1.2.1
  have O := (G.1 p hp).2 hi
  obtain ⟨e, wX, wY, wF⟩ := sw_11 (xT := xT) (tr := tr) (ep := ep) (ind := ind) (pc := pc) (a := a) (nm := nm) (nv := nv) (ps := ps) (pst := pst) (psk := psk) (jm := jm) (cp := cp) (stk := stk) (em := em) (ce := ce) (rp := rp) (ct := ct) (cm := cm) (po := po) (yc := yc) (ye := ye) h80 hp K.1 K.2.1 K.2.2.1 hl G.2.2.2.1 hc
  refine ⟨e, wX, wY, fun he => ?_⟩
  obtain ⟨F1, F2⟩ := wF he
  clear wX wY wF
  obtain ⟨d, rfl⟩ : ∃ d, D = d + 2 := ⟨D - 2, by omega⟩
  have hD := K.1
  have hE := K.2.1
  exact Or.inl ⟨d + 1, E, p + 1, t, l, _, _, _, _, _, _, _, _, _, fun post h => xc_11 (by omega) hc (by omega) h, fun post h => yc_11 (by omega) (by omega) hc (by omega) h, sk_Kn h80 G K (by omega) (by omega) rfl (by rw [hc]; decide) (sk_Sp (sk_Rpl (by rw [hc]; decide) (by rw [hc]; decide) (by rw [hc]; decide) (by rw [hc]; decide)))⟩
theorem ss_4 (h80 : T ≤ 80) (G : sk_G T c a nm nv (nI (sk_vs c T)) jm cp) (K : sk_K T c D E p t l rp ct cm po yc ye) (hc : c p = 4) : ∃ e : Int32, (∀ post : Int32 → Prop, post e → wpX_whyStop post (xT, tr, ep, ind, nI (sk_vs c T), pc, nI D, nI E, nI p, nI t, nI (l + 1), c, a, nm, nv, ps, pst, psk, jm, cp, stk, em, ce, rp, ct, cm)) ∧ (∀ post : Int32 → Prop, post e → wpY_obstacle post (nI T, tr, ep, nI D, nI E, nI l, nI t, c, a, stk, em, ce, po, yc, ye) (nI p)) ∧ (e = 0 →
    (∃ (D1 E1 p1 t1 l1 : Nat) (stk1 em1 ce1 rp1 ct1 cm1 po1 yc1 ye1 : Nat → Int32), (∀ post : SX → Prop, post (xT, tr, ep, ind, nI (sk_vs c T), pc, nI D1, nI E1, nI p1, nI t1, nI (l1 + 1), c, a, nm, nv, ps, pst, psk, jm, cp, stk1, em1, ce1, rp1, ct1, cm1) → wpX_carryOut post (xT, tr, ep, ind, nI (sk_vs c T), pc, nI D, nI E, nI p, nI t, nI (l + 1), c, a, nm, nv, ps, pst, psk, jm, cp, stk, em, ce, rp, ct, cm)) ∧ (∀ post : SY → Prop, post (nI T, tr, ep, nI D1, nI E1, nI l1, nI t1, c, a, stk1, em1, ce1, po1, yc1, ye1) → wpY_carryOut post (nI T, tr, ep, nI D, nI E, nI l, nI t, c, a, stk, em, ce, po, yc, ye) (nI p)) ∧ sk_K T c D1 E1 p1 t1 l1 rp1 ct1 cm1 po1 yc1 ye1 ∧ sk_M po1 l1 t1 < sk_M po l t)
    ∨ (∃ cur1 : Int32, (∀ post : SX → Prop, post (xT, tr, ep, ind, nI (sk_vs c T), pc, nI D, nI E, cur1, nI t, nI 0, c, a, nm, nv, ps, pst, psk, jm, cp, stk, em, ce, rp, ct, cm) → wpX_carryOut post (xT, tr, ep, ind, nI (sk_vs c T), pc, nI D, nI E, nI p, nI t, nI (l + 1), c, a, nm, nv, ps, pst, psk, jm, cp, stk, em, ce, rp, ct, cm)) ∧ (∀ post : SY → Prop, post (nI T, tr, ep, nI D, nI E, nI 0 - 1, nI t, c, a, stk, em, ce, po, yc, ye) → wpY_carryOut post (nI T, tr, ep, nI D, nI E, nI l, nI t, c, a, stk, em, ce, po, yc, ye) (nI p)))) := by
  have hp := K.2.2.2.2.1.1
  have hl := K.2.2.2.1
  have hi := K.2.2.2.2.1.2.1
  have O := (G.1 p hp).2 hi
  obtain ⟨e, wX, wY, wF⟩ := sw_4 (xT := xT) (tr := tr) (ep := ep) (ind := ind) (pc := pc) (a := a) (nm := nm) (nv := nv) (ps := ps) (pst := pst) (psk := psk) (jm := jm) (cp := cp) (stk := stk) (em := em) (ce := ce) (rp := rp) (ct := ct) (cm := cm) (po := po) (yc := yc) (ye := ye) h80 hp K.1 K.2.1 K.2.2.1 hl G.2.2.2.1 hc
  refine ⟨e, wX, wY, fun he => ?_⟩
  obtain ⟨F1, F2⟩ := wF he
  clear wX wY wF
  obtain ⟨d, rfl⟩ : ∃ d, D = d + 2 := ⟨D - 2, by omega⟩
  have hD := K.1
  have hE := K.2.1
  exact Or.inl ⟨d + 1, E, p + 1, t, l, _, _, _, _, _, _, _, _, _, fun post h => xc_4 (by omega) hc (by omega) (fun y => F2 y) h, fun post h => yc_4 (by omega) (by omega) hc (by omega) (fun y => F2 y) h, sk_Kn h80 G K (by omega) (by omega) rfl (by rw [hc]; decide) (sk_Sp (sk_Rpl (by rw [hc]; decide) (by rw [hc]; decide) (by rw [hc]; decide) (by rw [hc]; decide)))⟩
theorem ss_5 (h80 : T ≤ 80) (G : sk_G T c a nm nv (nI (sk_vs c T)) jm cp) (K : sk_K T c D E p t l rp ct cm po yc ye) (hc : c p = 5) : ∃ e : Int32, (∀ post : Int32 → Prop, post e → wpX_whyStop post (xT, tr, ep, ind, nI (sk_vs c T), pc, nI D, nI E, nI p, nI t, nI (l + 1), c, a, nm, nv, ps, pst, psk, jm, cp, stk, em, ce, rp, ct, cm)) ∧ (∀ post : Int32 → Prop, post e → wpY_obstacle post (nI T, tr, ep, nI D, nI E, nI l, nI t, c, a, stk, em, ce, po, yc, ye) (nI p)) ∧ (e = 0 →
    (∃ (D1 E1 p1 t1 l1 : Nat) (stk1 em1 ce1 rp1 ct1 cm1 po1 yc1 ye1 : Nat → Int32), (∀ post : SX → Prop, post (xT, tr, ep, ind, nI (sk_vs c T), pc, nI D1, nI E1, nI p1, nI t1, nI (l1 + 1), c, a, nm, nv, ps, pst, psk, jm, cp, stk1, em1, ce1, rp1, ct1, cm1) → wpX_carryOut post (xT, tr, ep, ind, nI (sk_vs c T), pc, nI D, nI E, nI p, nI t, nI (l + 1), c, a, nm, nv, ps, pst, psk, jm, cp, stk, em, ce, rp, ct, cm)) ∧ (∀ post : SY → Prop, post (nI T, tr, ep, nI D1, nI E1, nI l1, nI t1, c, a, stk1, em1, ce1, po1, yc1, ye1) → wpY_carryOut post (nI T, tr, ep, nI D, nI E, nI l, nI t, c, a, stk, em, ce, po, yc, ye) (nI p)) ∧ sk_K T c D1 E1 p1 t1 l1 rp1 ct1 cm1 po1 yc1 ye1 ∧ sk_M po1 l1 t1 < sk_M po l t)
    ∨ (∃ cur1 : Int32, (∀ post : SX → Prop, post (xT, tr, ep, ind, nI (sk_vs c T), pc, nI D, nI E, cur1, nI t, nI 0, c, a, nm, nv, ps, pst, psk, jm, cp, stk, em, ce, rp, ct, cm) → wpX_carryOut post (xT, tr, ep, ind, nI (sk_vs c T), pc, nI D, nI E, nI p, nI t, nI (l + 1), c, a, nm, nv, ps, pst, psk, jm, cp, stk, em, ce, rp, ct, cm)) ∧ (∀ post : SY → Prop, post (nI T, tr, ep, nI D, nI E, nI 0 - 1, nI t, c, a, stk, em, ce, po, yc, ye) → wpY_carryOut post (nI T, tr, ep, nI D, nI E, nI l, nI t, c, a, stk, em, ce, po, yc, ye) (nI p)))) := by
  have hp := K.2.2.2.2.1.1
  have hl := K.2.2.2.1
  have hi := K.2.2.2.2.1.2.1
  have O := (G.1 p hp).2 hi
  obtain ⟨e, wX, wY, wF⟩ := sw_5 (xT := xT) (tr := tr) (ep := ep) (ind := ind) (pc := pc) (a := a) (nm := nm) (nv := nv) (ps := ps) (pst := pst) (psk := psk) (jm := jm) (cp := cp) (stk := stk) (em := em) (ce := ce) (rp := rp) (ct := ct) (cm := cm) (po := po) (yc := yc) (ye := ye) h80 hp K.1 K.2.1 K.2.2.1 hl G.2.2.2.1 hc
  refine ⟨e, wX, wY, fun he => ?_⟩
  obtain ⟨F1, F2⟩ := wF he
  clear wX wY wF
  obtain ⟨d, rfl⟩ : ∃ d, D = d + 1 := ⟨D - 1, by omega⟩
  have hD := K.1
  have hE := K.2.1
  exact Or.inl ⟨d + 2, E, p + 1, t, l, _, _, _, _, _, _, _, _, _, fun post h => xc_5 (by omega) hc (by omega) h, fun post h => yc_5 (by omega) (by omega) hc (by omega) h, sk_Kn h80 G K (by omega) (by omega) rfl (by rw [hc]; decide) (sk_Sp (sk_Rpl (by rw [hc]; decide) (by rw [hc]; decide) (by rw [hc]; decide) (by rw [hc]; decide)))⟩
theorem ss_6 (h80 : T ≤ 80) (G : sk_G T c a nm nv (nI (sk_vs c T)) jm cp) (K : sk_K T c D E p t l rp ct cm po yc ye) (hc : c p = 6) : ∃ e : Int32, (∀ post : Int32 → Prop, post e → wpX_whyStop post (xT, tr, ep, ind, nI (sk_vs c T), pc, nI D, nI E, nI p, nI t, nI (l + 1), c, a, nm, nv, ps, pst, psk, jm, cp, stk, em, ce, rp, ct, cm)) ∧ (∀ post : Int32 → Prop, post e → wpY_obstacle post (nI T, tr, ep, nI D, nI E, nI l, nI t, c, a, stk, em, ce, po, yc, ye) (nI p)) ∧ (e = 0 →
    (∃ (D1 E1 p1 t1 l1 : Nat) (stk1 em1 ce1 rp1 ct1 cm1 po1 yc1 ye1 : Nat → Int32), (∀ post : SX → Prop, post (xT, tr, ep, ind, nI (sk_vs c T), pc, nI D1, nI E1, nI p1, nI t1, nI (l1 + 1), c, a, nm, nv, ps, pst, psk, jm, cp, stk1, em1, ce1, rp1, ct1, cm1) → wpX_carryOut post (xT, tr, ep, ind, nI (sk_vs c T), pc, nI D, nI E, nI p, nI t, nI (l + 1), c, a, nm, nv, ps, pst, psk, jm, cp, stk, em, ce, rp, ct, cm)) ∧ (∀ post : SY → Prop, post (nI T, tr, ep, nI D1, nI E1, nI l1, nI t1, c, a, stk1, em1, ce1, po1, yc1, ye1) → wpY_carryOut post (nI T, tr, ep, nI D, nI E, nI l, nI t, c, a, stk, em, ce, po, yc, ye) (nI p)) ∧ sk_K T c D1 E1 p1 t1 l1 rp1 ct1 cm1 po1 yc1 ye1 ∧ sk_M po1 l1 t1 < sk_M po l t)
    ∨ (∃ cur1 : Int32, (∀ post : SX → Prop, post (xT, tr, ep, ind, nI (sk_vs c T), pc, nI D, nI E, cur1, nI t, nI 0, c, a, nm, nv, ps, pst, psk, jm, cp, stk, em, ce, rp, ct, cm) → wpX_carryOut post (xT, tr, ep, ind, nI (sk_vs c T), pc, nI D, nI E, nI p, nI t, nI (l + 1), c, a, nm, nv, ps, pst, psk, jm, cp, stk, em, ce, rp, ct, cm)) ∧ (∀ post : SY → Prop, post (nI T, tr, ep, nI D, nI E, nI 0 - 1, nI t, c, a, stk, em, ce, po, yc, ye) → wpY_carryOut post (nI T, tr, ep, nI D, nI E, nI l, nI t, c, a, stk, em, ce, po, yc, ye) (nI p)))) := by
  have hp := K.2.2.2.2.1.1
  have hl := K.2.2.2.1
  have hi := K.2.2.2.2.1.2.1
  have O := (G.1 p hp).2 hi
  obtain ⟨e, wX, wY, wF⟩ := sw_6 (xT := xT) (tr := tr) (ep := ep) (ind := ind) (pc := pc) (a := a) (nm := nm) (nv := nv) (ps := ps) (pst := pst) (psk := psk) (jm := jm) (cp := cp) (stk := stk) (em := em) (ce := ce) (rp := rp) (ct := ct) (cm := cm) (po := po) (yc := yc) (ye := ye) h80 hp K.1 K.2.1 K.2.2.1 hl G.2.2.2.1 hc
  refine ⟨e, wX, wY, fun he => ?_⟩
  obtain ⟨F1, F2⟩ := wF he
  clear wX wY wF
  obtain ⟨d, rfl⟩ : ∃ d, D = d + 1 := ⟨D - 1, by omega⟩
  have hD := K.1
  have hE := K.2.1
  exact Or.inl ⟨d, E, p + 1, t, l, _, _, _, _, _, _, _, _, _, fun post h => xc_6 (by omega) hc  h, fun post h => yc_6 (by omega) (by omega) hc (by omega) h, sk_Kn h80 G K (by omega) (by omega) rfl (by rw [hc]; decide) (sk_Sp (sk_Rpl (by rw [hc]; decide) (by rw [hc]; decide) (by rw [hc]; decide) (by rw [hc]; decide)))⟩
theorem ss_7 (h80 : T ≤ 80) (G : sk_G T c a nm nv (nI (sk_vs c T)) jm cp) (K : sk_K T c D E p t l rp ct cm po yc ye) (hc : c p = 7) : ∃ e : Int32, (∀ post : Int32 → Prop, post e → wpX_whyStop post (xT, tr, ep, ind, nI (sk_vs c T), pc, nI D, nI E, nI p, nI t, nI (l + 1), c, a, nm, nv, ps, pst, psk, jm, cp, stk, em, ce, rp, ct, cm)) ∧ (∀ post : Int32 → Prop, post e → wpY_obstacle post (nI T, tr, ep, nI D, nI E, nI l, nI t, c, a, stk, em, ce, po, yc, ye) (nI p)) ∧ (e = 0 →
    (∃ (D1 E1 p1 t1 l1 : Nat) (stk1 em1 ce1 rp1 ct1 cm1 po1 yc1 ye1 : Nat → Int32), (∀ post : SX → Prop, post (xT, tr, ep, ind, nI (sk_vs c T), pc, nI D1, nI E1, nI p1, nI t1, nI (l1 + 1), c, a, nm, nv, ps, pst, psk, jm, cp, stk1, em1, ce1, rp1, ct1, cm1) → wpX_carryOut post (xT, tr, ep, ind, nI (sk_vs c T), pc, nI D, nI E, nI p, nI t, nI (l + 1), c, a, nm, nv, ps, pst, psk, jm, cp, stk, em, ce, rp, ct, cm)) ∧ (∀ post : SY → Prop, post (nI T, tr, ep, nI D1, nI E1, nI l1, nI t1, c, a, stk1, em1, ce1, po1, yc1, ye1) → wpY_carryOut post (nI T, tr, ep, nI D, nI E, nI l, nI t, c, a, stk, em, ce, po, yc, ye) (nI p)) ∧ sk_K T c D1 E1 p1 t1 l1 rp1 ct1 cm1 po1 yc1 ye1 ∧ sk_M po1 l1 t1 < sk_M po l t)
    ∨ (∃ cur1 : Int32, (∀ post : SX → Prop, post (xT, tr, ep, ind, nI (sk_vs c T), pc, nI D, nI E, cur1, nI t, nI 0, c, a, nm, nv, ps, pst, psk, jm, cp, stk, em, ce, rp, ct, cm) → wpX_carryOut post (xT, tr, ep, ind, nI (sk_vs c T), pc, nI D, nI E, nI p, nI t, nI (l + 1), c, a, nm, nv, ps, pst, psk, jm, cp, stk, em, ce, rp, ct, cm)) ∧ (∀ post : SY → Prop, post (nI T, tr, ep, nI D, nI E, nI 0 - 1, nI t, c, a, stk, em, ce, po, yc, ye) → wpY_carryOut post (nI T, tr, ep, nI D, nI E, nI l, nI t, c, a, stk, em, ce, po, yc, ye) (nI p)))) := by
  have hp := K.2.2.2.2.1.1
  have hl := K.2.2.2.1
  have hi := K.2.2.2.2.1.2.1
  have O := (G.1 p hp).2 hi
  obtain ⟨e, wX, wY, wF⟩ := sw_7 (xT := xT) (tr := tr) (ep := ep) (ind := ind) (pc := pc) (a := a) (nm := nm) (nv := nv) (ps := ps) (pst := pst) (psk := psk) (jm := jm) (cp := cp) (stk := stk) (em := em) (ce := ce) (rp := rp) (ct := ct) (cm := cm) (po := po) (yc := yc) (ye := ye) h80 hp K.1 K.2.1 K.2.2.1 hl G.2.2.2.1 hc
  refine ⟨e, wX, wY, fun he => ?_⟩
  obtain ⟨F1, F2⟩ := wF he
  clear wX wY wF
  obtain ⟨d, rfl⟩ : ∃ d, D = d + 2 := ⟨D - 2, by omega⟩
  have hD := K.1
  have hE := K.2.1
  exact Or.inl ⟨d + 2, E, p + 1, t, l, _, _, _, _, _, _, _, _, _, fun post h => xc_7 (by omega) hc (by omega) h, fun post h => yc_7 (by omega) (by omega) hc (by omega) h, sk_Kn h80 G K (by omega) (by omega) rfl (by rw [hc]; decide) (sk_Sp (sk_Rpl (by rw [hc]; decide) (by rw [hc]; decide) (by rw [hc]; decide) (by rw [hc]; decide)))⟩
theorem ss_8 (h80 : T ≤ 80) (G : sk_G T c a nm nv (nI (sk_vs c T)) jm cp) (K : sk_K T c D E p t l rp ct cm po yc ye) (hc : c p = 8) : ∃ e : Int32, (∀ post : Int32 → Prop, post e → wpX_whyStop post (xT, tr, ep, ind, nI (sk_vs c T), pc, nI D, nI E, nI p, nI t, nI (l + 1), c, a, nm, nv, ps, pst, psk, jm, cp, stk, em, ce, rp, ct, cm)) ∧ (∀ post : Int32 → Prop, post e → wpY_obstacle post (nI T, tr, ep, nI D, nI E, nI l, nI t, c, a, stk, em, ce, po, yc, ye) (nI p)) ∧ (e = 0 →
    (∃ (D1 E1 p1 t1 l1 : Nat) (stk1 em1 ce1 rp1 ct1 cm1 po1 yc1 ye1 : Nat → Int32), (∀ post : SX → Prop, post (xT, tr, ep, ind, nI (sk_vs c T), pc, nI D1, nI E1, nI p1, nI t1, nI (l1 + 1), c, a, nm, nv, ps, pst, psk, jm, cp, stk1, em1, ce1, rp1, ct1, cm1) → wpX_carryOut post (xT, tr, ep, ind, nI (sk_vs c T), pc, nI D, nI E, nI p, nI t, nI (l + 1), c, a, nm, nv, ps, pst, psk, jm, cp, stk, em, ce, rp, ct, cm)) ∧ (∀ post : SY → Prop, post (nI T, tr, ep, nI D1, nI E1, nI l1, nI t1, c, a, stk1, em1, ce1, po1, yc1, ye1) → wpY_carryOut post (nI T, tr, ep, nI D, nI E, nI l, nI t, c, a, stk, em, ce, po, yc, ye) (nI p)) ∧ sk_K T c D1 E1 p1 t1 l1 rp1 ct1 cm1 po1 yc1 ye1 ∧ sk_M po1 l1 t1 < sk_M po l t)
    ∨ (∃ cur1 : Int32, (∀ post : SX → Prop, post (xT, tr, ep, ind, nI (sk_vs c T), pc, nI D, nI E, cur1, nI t, nI 0, c, a, nm, nv, ps, pst, psk, jm, cp, stk, em, ce, rp, ct, cm) → wpX_carryOut post (xT, tr, ep, ind, nI (sk_vs c T), pc, nI D, nI E, nI p, nI t, nI (l + 1), c, a, nm, nv, ps, pst, psk, jm, cp, stk, em, ce, rp, ct, cm)) ∧ (∀ post : SY → Prop, post (nI T, tr, ep, nI D, nI E, nI 0 - 1, nI t, c, a, stk, em, ce, po, yc, ye) → wpY_carryOut post (nI T, tr, ep, nI D, nI E, nI l, nI t, c, a, stk, em, ce, po, yc, ye) (nI p)))) := by
  have hp := K.2.2.2.2.1.1
  have hl := K.2.2.2.1
  have hi := K.2.2.2.2.1.2.1
  have O := (G.1 p hp).2 hi
  obtain ⟨e, wX, wY, wF⟩ := sw_8 (xT := xT) (tr := tr) (ep := ep) (ind := ind) (pc := pc) (a := a) (nm := nm) (nv := nv) (ps := ps) (pst := pst) (psk := psk) (jm := jm) (cp := cp) (stk := stk) (em := em) (ce := ce) (rp := rp) (ct := ct) (cm := cm) (po := po) (yc := yc) (ye := ye) h80 hp K.1 K.2.1 K.2.2.1 hl G.2.2.2.1 hc
  refine ⟨e, wX, wY, fun he => ?_⟩
  obtain ⟨F1, F2⟩ := wF he
  clear wX wY wF
  obtain ⟨d, rfl⟩ : ∃ d, D = d + 2 := ⟨D - 2, by omega⟩
  have hD := K.1
  have hE := K.2.1
  exact Or.inl ⟨d + 3, E, p + 1, t, l, _, _, _, _, _, _, _, _, _, fun post h => xc_8 (by omega) hc (by omega) h, fun post h => yc_8 (by omega) (by omega) hc (by omega) h, sk_Kn h80 G K (by omega) (by omega) rfl (by rw [hc]; decide) (sk_Sp (sk_Rpl (by rw [hc]; decide) (by rw [hc]; decide) (by rw [hc]; decide) (by rw [hc]; decide)))⟩
theorem ss_9 (h80 : T ≤ 80) (G : sk_G T c a nm nv (nI (sk_vs c T)) jm cp) (K : sk_K T c D E p t l rp ct cm po yc ye) (hc : c p = 9) : ∃ e : Int32, (∀ post : Int32 → Prop, post e → wpX_whyStop post (xT, tr, ep, ind, nI (sk_vs c T), pc, nI D, nI E, nI p, nI t, nI (l + 1), c, a, nm, nv, ps, pst, psk, jm, cp, stk, em, ce, rp, ct, cm)) ∧ (∀ post : Int32 → Prop, post e → wpY_obstacle post (nI T, tr, ep, nI D, nI E, nI l, nI t, c, a, stk, em, ce, po, yc, ye) (nI p)) ∧ (e = 0 →
    (∃ (D1 E1 p1 t1 l1 : Nat) (stk1 em1 ce1 rp1 ct1 cm1 po1 yc1 ye1 : Nat → Int32), (∀ post : SX → Prop, post (xT, tr, ep, ind, nI (sk_vs c T), pc, nI D1, nI E1, nI p1, nI t1, nI (l1 + 1), c, a, nm, nv, ps, pst, psk, jm, cp, stk1, em1, ce1, rp1, ct1, cm1) → wpX_carryOut post (xT, tr, ep, ind, nI (sk_vs c T), pc, nI D, nI E, nI p, nI t, nI (l + 1), c, a, nm, nv, ps, pst, psk, jm, cp, stk, em, ce, rp, ct, cm)) ∧ (∀ post : SY → Prop, post (nI T, tr, ep, nI D1, nI E1, nI l1, nI t1, c, a, stk1, em1, ce1, po1, yc1, ye1) → wpY_carryOut post (nI T, tr, ep, nI D, nI E, nI l, nI t, c, a, stk, em, ce, po, yc, ye) (nI p)) ∧ sk_K T c D1 E1 p1 t1 l1 rp1 ct1 cm1 po1 yc1 ye1 ∧ sk_M po1 l1 t1 < sk_M po l t)
    ∨ (∃ cur1 : Int32, (∀ post : SX → Prop, post (xT, tr, ep, ind, nI (sk_vs c T), pc, nI D, nI E, cur1, nI t, nI 0, c, a, nm, nv, ps, pst, psk, jm, cp, stk, em, ce, rp, ct, cm) → wpX_carryOut post (xT, tr, ep, ind, nI (sk_vs c T), pc, nI D, nI E, nI p, nI t, nI (l + 1), c, a, nm, nv, ps, pst, psk, jm, cp, stk, em, ce, rp, ct, cm)) ∧ (∀ post : SY → Prop, post (nI T, tr, ep, nI D, nI E, nI 0 - 1, nI t, c, a, stk, em, ce, po, yc, ye) → wpY_carryOut post (nI T, tr, ep, nI D, nI E, nI l, nI t, c, a, stk, em, ce, po, yc, ye) (nI p)))) := by
  have hp := K.2.2.2.2.1.1
  have hl := K.2.2.2.1
  have hi := K.2.2.2.2.1.2.1
  have O := (G.1 p hp).2 hi
  obtain ⟨e, wX, wY, wF⟩ := sw_9 (xT := xT) (tr := tr) (ep := ep) (ind := ind) (pc := pc) (a := a) (nm := nm) (nv := nv) (ps := ps) (pst := pst) (psk := psk) (jm := jm) (cp := cp) (stk := stk) (em := em) (ce := ce) (rp := rp) (ct := ct) (cm := cm) (po := po) (yc := yc) (ye := ye) h80 hp K.1 K.2.1 K.2.2.1 hl G.2.2.2.1 hc
  refine ⟨e, wX, wY, fun he => ?_⟩
  obtain ⟨F1, F2⟩ := wF he
  clear wX wY wF
  obtain ⟨d, rfl⟩ : ∃ d, D = d + 3 := ⟨D - 3, by omega⟩
  have hD := K.1
  have hE := K.2.1
  exact Or.inl ⟨d + 3, E, p + 1, t, l, _, _, _, _, _, _, _, _, _, fun post h => xc_9 (by omega) hc (by omega) h, fun post h => yc_9 (by omega) (by omega) hc (by omega) h, sk_Kn h80 G K (by omega) (by omega) rfl (by rw [hc]; decide) (sk_Sp (sk_Rpl (by rw [hc]; decide) (by rw [hc]; decide) (by rw [hc]; decide) (by rw [hc]; decide)))⟩
theorem ss_12 (h80 : T ≤ 80) (G : sk_G T c a nm nv (nI (sk_vs c T)) jm cp) (K : sk_K T c D E p t l rp ct cm po yc ye) (hc : c p = 12) : ∃ e : Int32, (∀ post : Int32 → Prop, post e → wpX_whyStop post (xT, tr, ep, ind, nI (sk_vs c T), pc, nI D, nI E, nI p, nI t, nI (l + 1), c, a, nm, nv, ps, pst, psk, jm, cp, stk, em, ce, rp, ct, cm)) ∧ (∀ post : Int32 → Prop, post e → wpY_obstacle post (nI T, tr, ep, nI D, nI E, nI l, nI t, c, a, stk, em, ce, po, yc, ye) (nI p)) ∧ (e = 0 →
    (∃ (D1 E1 p1 t1 l1 : Nat) (stk1 em1 ce1 rp1 ct1 cm1 po1 yc1 ye1 : Nat → Int32), (∀ post : SX → Prop, post (xT, tr, ep, ind, nI (sk_vs c T), pc, nI D1, nI E1, nI p1, nI t1, nI (l1 + 1), c, a, nm, nv, ps, pst, psk, jm, cp, stk1, em1, ce1, rp1, ct1, cm1) → wpX_carryOut post (xT, tr, ep, ind, nI (sk_vs c T), pc, nI D, nI E, nI p, nI t, nI (l + 1), c, a, nm, nv, ps, pst, psk, jm, cp, stk, em, ce, rp, ct, cm)) ∧ (∀ post : SY → Prop, post (nI T, tr, ep, nI D1, nI E1, nI l1, nI t1, c, a, stk1, em1, ce1, po1, yc1, ye1) → wpY_carryOut post (nI T, tr, ep, nI D, nI E, nI l, nI t, c, a, stk, em, ce, po, yc, ye) (nI p)) ∧ sk_K T c D1 E1 p1 t1 l1 rp1 ct1 cm1 po1 yc1 ye1 ∧ sk_M po1 l1 t1 < sk_M po l t)
    ∨ (∃ cur1 : Int32, (∀ post : SX → Prop, post (xT, tr, ep, ind, nI (sk_vs c T), pc, nI D, nI E, cur1, nI t, nI 0, c, a, nm, nv, ps, pst, psk, jm, cp, stk, em, ce, rp, ct, cm) → wpX_carryOut post (xT, tr, ep, ind, nI (sk_vs c T), pc, nI D, nI E, nI p, nI t, nI (l + 1), c, a, nm, nv, ps, pst, psk, jm, cp, stk, em, ce, rp, ct, cm)) ∧ (∀ post : SY → Prop, post (nI T, tr, ep, nI D, nI E, nI 0 - 1, nI t, c, a, stk, em, ce, po, yc, ye) → wpY_carryOut post (nI T, tr, ep, nI D, nI E, nI l, nI t, c, a, stk, em, ce, po, yc, ye) (nI p)))) := by
  have hp := K.2.2.2.2.1.1
  have hl := K.2.2.2.1
  have hi := K.2.2.2.2.1.2.1
  have O := (G.1 p hp).2 hi
  obtain ⟨e, wX, wY, wF⟩ := sw_12 (xT := xT) (tr := tr) (ep := ep) (ind := ind) (pc := pc) (a := a) (nm := nm) (nv := nv) (ps := ps) (pst := pst) (psk := psk) (jm := jm) (cp := cp) (stk := stk) (em := em) (ce := ce) (rp := rp) (ct := ct) (cm := cm) (po := po) (yc := yc) (ye := ye) h80 hp K.1 K.2.1 K.2.2.1 hl G.2.2.2.1 hc
  refine ⟨e, wX, wY, fun he => ?_⟩
  obtain ⟨F1, F2⟩ := wF he
  clear wX wY wF
  obtain ⟨d, rfl⟩ : ∃ d, D = d + 1 := ⟨D - 1, by omega⟩
  have hD := K.1
  have hE := K.2.1
  obtain ⟨n, hn, en⟩ := F2
  have hV := G.2.2.2.1
  exact Or.inl ⟨d + 1, E, p + 1, t, l, _, _, _, _, _, _, _, _, _, fun post h => xc_12 (by omega) hc (n := n) (by omega) (by omega) en h, fun post h => yc_12 (by omega) (by omega) hc (n := n) (by omega) (by omega) en h, sk_Kn h80 G K (by omega) (by omega) rfl (by rw [hc]; decide) (sk_Sp (sk_Rpl (by rw [hc]; decide) (by rw [hc]; decide) (by rw [hc]; decide) (by rw [hc]; decide)))⟩
theorem ss_13 (h80 : T ≤ 80) (G : sk_G T c a nm nv (nI (sk_vs c T)) jm cp) (K : sk_K T c D E p t l rp ct cm po yc ye) (hc : c p = 13) : ∃ e : Int32, (∀ post : Int32 → Prop, post e → wpX_whyStop post (xT, tr, ep, ind, nI (sk_vs c T), pc, nI D, nI E, nI p, nI t, nI (l + 1), c, a, nm, nv, ps, pst, psk, jm, cp, stk, em, ce, rp, ct, cm)) ∧ (∀ post : Int32 → Prop, post e → wpY_obstacle post (nI T, tr, ep, nI D, nI E, nI l, nI t, c, a, stk, em, ce, po, yc, ye) (nI p)) ∧ (e = 0 →
    (∃ (D1 E1 p1 t1 l1 : Nat) (stk1 em1 ce1 rp1 ct1 cm1 po1 yc1 ye1 : Nat → Int32), (∀ post : SX → Prop, post (xT, tr, ep, ind, nI (sk_vs c T), pc, nI D1, nI E1, nI p1, nI t1, nI (l1 + 1), c, a, nm, nv, ps, pst, psk, jm, cp, stk1, em1, ce1, rp1, ct1, cm1) → wpX_carryOut post (xT, tr, ep, ind, nI (sk_vs c T), pc, nI D, nI E, nI p, nI t, nI (l + 1), c, a, nm, nv, ps, pst, psk, jm, cp, stk, em, ce, rp, ct, cm)) ∧ (∀ post : SY → Prop, post (nI T, tr, ep, nI D1, nI E1, nI l1, nI t1, c, a, stk1, em1, ce1, po1, yc1, ye1) → wpY_carryOut post (nI T, tr, ep, nI D, nI E, nI l, nI t, c, a, stk, em, ce, po, yc, ye) (nI p)) ∧ sk_K T c D1 E1 p1 t1 l1 rp1 ct1 cm1 po1 yc1 ye1 ∧ sk_M po1 l1 t1 < sk_M po l t)
    ∨ (∃ cur1 : Int32, (∀ post : SX → Prop, post (xT, tr, ep, ind, nI (sk_vs c T), pc, nI D, nI E, cur1, nI t, nI 0, c, a, nm, nv, ps, pst, psk, jm, cp, stk, em, ce, rp, ct, cm) → wpX_carryOut post (xT, tr, ep, ind, nI (sk_vs c T), pc, nI D, nI E, nI p, nI t, nI (l + 1), c, a, nm, nv, ps, pst, psk, jm, cp, stk, em, ce, rp, ct, cm)) ∧ (∀ post : SY → Prop, post (nI T, tr, ep, nI D, nI E, nI 0 - 1, nI t, c, a, stk, em, ce, po, yc, ye) → wpY_carryOut post (nI T, tr, ep, nI D, nI E, nI l, nI t, c, a, stk, em, ce, po, yc, ye) (nI p)))) := by
  have hp := K.2.2.2.2.1.1
  have hl := K.2.2.2.1
  have hi := K.2.2.2.2.1.2.1
  have O := (G.1 p hp).2 hi
  obtain ⟨e, wX, wY, wF⟩ := sw_13 (xT := xT) (tr := tr) (ep := ep) (ind := ind) (pc := pc) (a := a) (nm := nm) (nv := nv) (ps := ps) (pst := pst) (psk := psk) (jm := jm) (cp := cp) (stk := stk) (em := em) (ce := ce) (rp := rp) (ct := ct) (cm := cm) (po := po) (yc := yc) (ye := ye) h80 hp K.1 K.2.1 K.2.2.1 hl G.2.2.2.1 hc
  refine ⟨e, wX, wY, fun he => ?_⟩
  obtain ⟨F1, F2⟩ := wF he
  clear wX wY wF
  obtain ⟨d, rfl⟩ : ∃ d, D = d + 2 := ⟨D - 2, by omega⟩
  have hD := K.1
  have hE := K.2.1
  obtain ⟨n, hn, en⟩ := F2
  have hV := G.2.2.2.1
  exact Or.inl ⟨d, E, p + 1, t, l, _, _, _, _, _, _, _, _, _, fun post h => xc_13 (by omega) hc (n := n) (by omega) (by omega) en h, fun post h => yc_13 (by omega) (by omega) hc (n := n) (by omega) (by omega) en h, sk_Kn h80 G K (by omega) (by omega) rfl (by rw [hc]; decide) (sk_Sp (sk_Rpl (by rw [hc]; decide) (by rw [hc]; decide) (by rw [hc]; decide) (by rw [hc]; decide)))⟩
theorem ss_14 (h80 : T ≤ 80) (G : sk_G T c a nm nv (nI (sk_vs c T)) jm cp) (K : sk_K T c D E p t l rp ct cm po yc ye) (hc : c p = 14) : ∃ e : Int32, (∀ post : Int32 → Prop, post e → wpX_whyStop post (xT, tr, ep, ind, nI (sk_vs c T), pc, nI D, nI E, nI p, nI t, nI (l + 1), c, a, nm, nv, ps, pst, psk, jm, cp, stk, em, ce, rp, ct, cm)) ∧ (∀ post : Int32 → Prop, post e → wpY_obstacle post (nI T, tr, ep, nI D, nI E, nI l, nI t, c, a, stk, em, ce, po, yc, ye) (nI p)) ∧ (e = 0 →
    (∃ (D1 E1 p1 t1 l1 : Nat) (stk1 em1 ce1 rp1 ct1 cm1 po1 yc1 ye1 : Nat → Int32), (∀ post : SX → Prop, post (xT, tr, ep, ind, nI (sk_vs c T), pc, nI D1, nI E1, nI p1, nI t1, nI (l1 + 1), c, a, nm, nv, ps, pst, psk, jm, cp, stk1, em1, ce1, rp1, ct1, cm1) → wpX_carryOut post (xT, tr, ep, ind, nI (sk_vs c T), pc, nI D, nI E, nI p, nI t, nI (l + 1), c, a, nm, nv, ps, pst, psk, jm, cp, stk, em, ce, rp, ct, cm)) ∧ (∀ post : SY → Prop, post (nI T, tr, ep, nI D1, nI E1, nI l1, nI t1, c, a, stk1, em1, ce1, po1, yc1, ye1) → wpY_carryOut post (nI T, tr, ep, nI D, nI E, nI l, nI t, c, a, stk, em, ce, po, yc, ye) (nI p)) ∧ sk_K T c D1 E1 p1 t1 l1 rp1 ct1 cm1 po1 yc1 ye1 ∧ sk_M po1 l1 t1 < sk_M po l t)
    ∨ (∃ cur1 : Int32, (∀ post : SX → Prop, post (xT, tr, ep, ind, nI (sk_vs c T), pc, nI D, nI E, cur1, nI t, nI 0, c, a, nm, nv, ps, pst, psk, jm, cp, stk, em, ce, rp, ct, cm) → wpX_carryOut post (xT, tr, ep, ind, nI (sk_vs c T), pc, nI D, nI E, nI p, nI t, nI (l + 1), c, a, nm, nv, ps, pst, psk, jm, cp, stk, em, ce, rp, ct, cm)) ∧ (∀ post : SY → Prop, post (nI T, tr, ep, nI D, nI E, nI 0 - 1, nI t, c, a, stk, em, ce, po, yc, ye) → wpY_carryOut post (nI T, tr, ep, nI D, nI E, nI l, nI t, c, a, stk, em, ce, po, yc, ye) (nI p)))) := by
  have hp := K.2.2.2.2.1.1
  have hl := K.2.2.2.1
  have hi := K.2.2.2.2.1.2.1
  have O := (G.1 p hp).2 hi
  obtain ⟨e, wX, wY, wF⟩ := sw_14 (xT := xT) (tr := tr) (ep := ep) (ind := ind) (pc := pc) (a := a) (nm := nm) (nv := nv) (ps := ps) (pst := pst) (psk := psk) (jm := jm) (cp := cp) (stk := stk) (em := em) (ce := ce) (rp := rp) (ct := ct) (cm := cm) (po := po) (yc := yc) (ye := ye) h80 hp K.1 K.2.1 K.2.2.1 hl G.2.2.2.1 hc
  refine ⟨e, wX, wY, fun he => ?_⟩
  obtain ⟨F1, F2⟩ := wF he
  clear wX wY wF
  obtain ⟨d, rfl⟩ : ∃ d, D = d + 1 := ⟨D - 1, by omega⟩
  have hD := K.1
  have hE := K.2.1
  exact Or.inl ⟨d, E + 1, p + 1, t, l, _, _, _, _, _, _, _, _, _, fun post h => xc_14 (by omega) hc F2 (by omega) h, fun post h => yc_14 (by omega) (by omega) hc F2 (by omega) h, sk_Kn h80 G K (by omega) (by omega) rfl (by rw [hc]; decide) (sk_Sp (sk_Rpl (by rw [hc]; decide) (by rw [hc]; decide) (by rw [hc]; decide) (by rw [hc]; decide)))⟩
theorem ss_16 (h80 : T ≤ 80) (G : sk_G T c a nm nv (nI (sk_vs c T)) jm cp) (K : sk_K T c D E p t l rp ct cm po yc ye) (hc : c p = 16) : ∃ e : Int32, (∀ post : Int32 → Prop, post e → wpX_whyStop post (xT, tr, ep, ind, nI (sk_vs c T), pc, nI D, nI E, nI p, nI t, nI (l + 1), c, a, nm, nv, ps, pst, psk, jm, cp, stk, em, ce, rp, ct, cm)) ∧ (∀ post : Int32 → Prop, post e → wpY_obstacle post (nI T, tr, ep, nI D, nI E, nI l, nI t, c, a, stk, em, ce, po, yc, ye) (nI p)) ∧ (e = 0 →
    (∃ (D1 E1 p1 t1 l1 : Nat) (stk1 em1 ce1 rp1 ct1 cm1 po1 yc1 ye1 : Nat → Int32), (∀ post : SX → Prop, post (xT, tr, ep, ind, nI (sk_vs c T), pc, nI D1, nI E1, nI p1, nI t1, nI (l1 + 1), c, a, nm, nv, ps, pst, psk, jm, cp, stk1, em1, ce1, rp1, ct1, cm1) → wpX_carryOut post (xT, tr, ep, ind, nI (sk_vs c T), pc, nI D, nI E, nI p, nI t, nI (l + 1), c, a, nm, nv, ps, pst, psk, jm, cp, stk, em, ce, rp, ct, cm)) ∧ (∀ post : SY → Prop, post (nI T, tr, ep, nI D1, nI E1, nI l1, nI t1, c, a, stk1, em1, ce1, po1, yc1, ye1) → wpY_carryOut post (nI T, tr, ep, nI D, nI E, nI l, nI t, c, a, stk, em, ce, po, yc, ye) (nI p)) ∧ sk_K T c D1 E1 p1 t1 l1 rp1 ct1 cm1 po1 yc1 ye1 ∧ sk_M po1 l1 t1 < sk_M po l t)
    ∨ (∃ cur1 : Int32, (∀ post : SX → Prop, post (xT, tr, ep, ind, nI (sk_vs c T), pc, nI D, nI E, cur1, nI t, nI 0, c, a, nm, nv, ps, pst, psk, jm, cp, stk, em, ce, rp, ct, cm) → wpX_carryOut post (xT, tr, ep, ind, nI (sk_vs c T), pc, nI D, nI E, nI p, nI t, nI (l + 1), c, a, nm, nv, ps, pst, psk, jm, cp, stk, em, ce, rp, ct, cm)) ∧ (∀ post : SY → Prop, post (nI T, tr, ep, nI D, nI E, nI 0 - 1, nI t, c, a, stk, em, ce, po, yc, ye) → wpY_carryOut post (nI T, tr, ep, nI D, nI E, nI l, nI t, c, a, stk, em, ce, po, yc, ye) (nI p)))) := by
  have hp := K.2.2.2.2.1.1
  have hl := K.2.2.2.1
  have hi := K.2.2.2.2.1.2.1
  have O := (G.1 p hp).2 hi
  obtain ⟨e, wX, wY, wF⟩ := sw_16 (xT := xT) (tr := tr) (ep := ep) (ind := ind) (pc := pc) (a := a) (nm := nm) (nv := nv) (ps := ps) (pst := pst) (psk := psk) (jm := jm) (cp := cp) (stk := stk) (em := em) (ce := ce) (rp := rp) (ct := ct) (cm := cm) (po := po) (yc := yc) (ye := ye) h80 hp K.1 K.2.1 K.2.2.1 hl G.2.2.2.1 hc
  refine ⟨e, wX, wY, fun he => ?_⟩
  obtain ⟨F1, F2⟩ := wF he
  clear wX wY wF
  obtain ⟨d, rfl⟩ : ∃ d, D = d + 1 := ⟨D - 1, by omega⟩
  have hD := K.1
  by_cases hz : stk d = 0
  · obtain ⟨b, b1, b2, b3, b4, b5, b6⟩ := (G.2.2.2.2.2.2.1 p hp).1 (Or.inl hc)
    have b7 := sk_lt G (p := b + 1) (by omega) b5
    rw [show decide (c p = 16) = true from decide_eq_true hc] at b4
    exact Or.inl ⟨d, E, b + 1, t, l, _, _, _, _, _, _, _, _, _, fun post h => xc_16T (by omega) hc (by omega) hz b3 h, fun post h => yc_16T h80 hp hl hc (by omega) hz b4 h, sk_Ka h80 G K (by omega) K.2.1 b7 b5 (Or.inl ⟨rfl, by omega⟩) b6⟩
  · exact Or.inl ⟨d, E, p + 1, t, l, _, _, _, _, _, _, _, _, _, fun post h => xc_16F (by omega) hc (by omega) hz h, fun post h => yc_16F h80 hp hl hc (by omega) hz h, sk_Kn h80 G K (by omega) K.2.1 rfl (by rw [hc]; decide) (sk_So (by rw [hc]; decide) (by rw [hc]; decide))⟩
theorem ss_21 (h80 : T ≤ 80) (G : sk_G T c a nm nv (nI (sk_vs c T)) jm cp) (K : sk_K T c D E p t l rp ct cm po yc ye) (hc : c p = 21) : ∃ e : Int32, (∀ post : Int32 → Prop, post e → wpX_whyStop post (xT, tr, ep, ind, nI (sk_vs c T), pc, nI D, nI E, nI p, nI t, nI (l + 1), c, a, nm, nv, ps, pst, psk, jm, cp, stk, em, ce, rp, ct, cm)) ∧ (∀ post : Int32 → Prop, post e → wpY_obstacle post (nI T, tr, ep, nI D, nI E, nI l, nI t, c, a, stk, em, ce, po, yc, ye) (nI p)) ∧ (e = 0 →
    (∃ (D1 E1 p1 t1 l1 : Nat) (stk1 em1 ce1 rp1 ct1 cm1 po1 yc1 ye1 : Nat → Int32), (∀ post : SX → Prop, post (xT, tr, ep, ind, nI (sk_vs c T), pc, nI D1, nI E1, nI p1, nI t1, nI (l1 + 1), c, a, nm, nv, ps, pst, psk, jm, cp, stk1, em1, ce1, rp1, ct1, cm1) → wpX_carryOut post (xT, tr, ep, ind, nI (sk_vs c T), pc, nI D, nI E, nI p, nI t, nI (l + 1), c, a, nm, nv, ps, pst, psk, jm, cp, stk, em, ce, rp, ct, cm)) ∧ (∀ post : SY → Prop, post (nI T, tr, ep, nI D1, nI E1, nI l1, nI t1, c, a, stk1, em1, ce1, po1, yc1, ye1) → wpY_carryOut post (nI T, tr, ep, nI D, nI E, nI l, nI t, c, a, stk, em, ce, po, yc, ye) (nI p)) ∧ sk_K T c D1 E1 p1 t1 l1 rp1 ct1 cm1 po1 yc1 ye1 ∧ sk_M po1 l1 t1 < sk_M po l t)
    ∨ (∃ cur1 : Int32, (∀ post : SX → Prop, post (xT, tr, ep, ind, nI (sk_vs c T), pc, nI D, nI E, cur1, nI t, nI 0, c, a, nm, nv, ps, pst, psk, jm, cp, stk, em, ce, rp, ct, cm) → wpX_carryOut post (xT, tr, ep, ind, nI (sk_vs c T), pc, nI D, nI E, nI p, nI t, nI (l + 1), c, a, nm, nv, ps, pst, psk, jm, cp, stk, em, ce, rp, ct, cm)) ∧ (∀ post : SY → Prop, post (nI T, tr, ep, nI D, nI E, nI 0 - 1, nI t, c, a, stk, em, ce, po, yc, ye) → wpY_carryOut post (nI T, tr, ep, nI D, nI E, nI l, nI t, c, a, stk, em, ce, po, yc, ye) (nI p)))) := by
  have hp := K.2.2.2.2.1.1
  have hl := K.2.2.2.1
  have hi := K.2.2.2.2.1.2.1
  have O := (G.1 p hp).2 hi
  obtain ⟨e, wX, wY, wF⟩ := sw_21 (xT := xT) (tr := tr) (ep := ep) (ind := ind) (pc := pc) (a := a) (nm := nm) (nv := nv) (ps := ps) (pst := pst) (psk := psk) (jm := jm) (cp := cp) (stk := stk) (em := em) (ce := ce) (rp := rp) (ct := ct) (cm := cm) (po := po) (yc := yc) (ye := ye) h80 hp K.1 K.2.1 K.2.2.1 hl G.2.2.2.1 hc
  refine ⟨e, wX, wY, fun he => ?_⟩
  obtain ⟨F1, F2⟩ := wF he
  clear wX wY wF
  obtain ⟨d, rfl⟩ : ∃ d, D = d + 1 := ⟨D - 1, by omega⟩
  have hD := K.1
  by_cases hz : stk d = 0
  · obtain ⟨b, b1, b2, b3, b4, b5, b6⟩ := (G.2.2.2.2.2.2.1 p hp).1 (Or.inr (Or.inr (Or.inl hc)))
    have b7 := sk_lt G (p := b + 1) (by omega) b5
    rw [show decide (c p = 16) = false from decide_eq_false (by rw [hc]; decide)] at b4
    exact Or.inl ⟨d, E, b + 1, t, l, _, _, _, _, _, _, _, _, _, fun post h => xc_21T (by omega) hc (by omega) hz b3 h, fun post h => yc_21T h80 hp hl hc (by omega) hz b4 h, sk_Ka h80 G K (by omega) K.2.1 b7 b5 (Or.inl ⟨rfl, by omega⟩) b6⟩
  · exact Or.inl ⟨d, E, p + 1, t, l, _, _, _, _, _, _, _, _, _, fun post h => xc_21F (by omega) hc (by omega) hz h, fun post h => yc_21F h80 hp hl hc (by omega) hz h, sk_Kn h80 G K (by omega) K.2.1 rfl (by rw [hc]; decide) (sk_Sh (Or.inr hc))⟩
theorem ss_17 (h80 : T ≤ 80) (G : sk_G T c a nm nv (nI (sk_vs c T)) jm cp) (K : sk_K T c D E p t l rp ct cm po yc ye) (hc : c p = 17) : ∃ e : Int32, (∀ post : Int32 → Prop, post e → wpX_whyStop post (xT, tr, ep, ind, nI (sk_vs c T), pc, nI D, nI E, nI p, nI t, nI (l + 1), c, a, nm, nv, ps, pst, psk, jm, cp, stk, em, ce, rp, ct, cm)) ∧ (∀ post : Int32 → Prop, post e → wpY_obstacle post (nI T, tr, ep, nI D, nI E, nI l, nI t, c, a, stk, em, ce, po, yc, ye) (nI p)) ∧ (e = 0 →
    (∃ (D1 E1 p1 t1 l1 : Nat) (stk1 em1 ce1 rp1 ct1 cm1 po1 yc1 ye1 : Nat → Int32), (∀ post : SX → Prop, post (xT, tr, ep, ind, nI (sk_vs c T), pc, nI D1, nI E1, nI p1, nI t1, nI (l1 + 1), c, a, nm, nv, ps, pst, psk, jm, cp, stk1, em1, ce1, rp1, ct1, cm1) → wpX_carryOut post (xT, tr, ep, ind, nI (sk_vs c T), pc, nI D, nI E, nI p, nI t, nI (l + 1), c, a, nm, nv, ps, pst, psk, jm, cp, stk, em, ce, rp, ct, cm)) ∧ (∀ post : SY → Prop, post (nI T, tr, ep, nI D1, nI E1, nI l1, nI t1, c, a, stk1, em1, ce1, po1, yc1, ye1) → wpY_carryOut post (nI T, tr, ep, nI D, nI E, nI l, nI t, c, a, stk, em, ce, po, yc, ye) (nI p)) ∧ sk_K T c D1 E1 p1 t1 l1 rp1 ct1 cm1 po1 yc1 ye1 ∧ sk_M po1 l1 t1 < sk_M po l t)
    ∨ (∃ cur1 : Int32, (∀ post : SX → Prop, post (xT, tr, ep, ind, nI (sk_vs c T), pc, nI D, nI E, cur1, nI t, nI 0, c, a, nm, nv, ps, pst, psk, jm, cp, stk, em, ce, rp, ct, cm) → wpX_carryOut post (xT, tr, ep, ind, nI (sk_vs c T), pc, nI D, nI E, nI p, nI t, nI (l + 1), c, a, nm, nv, ps, pst, psk, jm, cp, stk, em, ce, rp, ct, cm)) ∧ (∀ post : SY → Prop, post (nI T, tr, ep, nI D, nI E, nI 0 - 1, nI t, c, a, stk, em, ce, po, yc, ye) → wpY_carryOut post (nI T, tr, ep, nI D, nI E, nI l, nI t, c, a, stk, em, ce, po, yc, ye) (nI p)))) := by
  have hp := K.2.2.2.2.1.1
  have hl := K.2.2.2.1
  have hi := K.2.2.2.2.1.2.1
  have O := (G.1 p hp).2 hi
  obtain ⟨e, wX, wY, wF⟩ := sw_17 (xT := xT) (tr := tr) (ep := ep) (ind := ind) (pc := pc) (a := a) (nm := nm) (nv := nv) (ps := ps) (pst := pst) (psk := psk) (jm := jm) (cp := cp) (stk := stk) (em := em) (ce := ce) (rp := rp) (ct := ct) (cm := cm) (po := po) (yc := yc) (ye := ye) h80 hp K.1 K.2.1 K.2.2.1 hl G.2.2.2.1 hc
  refine ⟨e, wX, wY, fun he => ?_⟩
  obtain ⟨F1, F2⟩ := wF he
  clear wX wY wF
  have hD := K.1
  obtain ⟨b, b1, b2, b3, b4, b5, b6⟩ := (G.2.2.2.2.2.2.1 p hp).1 (Or.inr (Or.inl hc))
  have b7 := sk_lt G (p := b + 1) (by omega) b5
  rw [show decide (c p = 16) = false from decide_eq_false (by rw [hc]; decide)] at b4
  exact Or.inl ⟨D, E, b + 1, t, l, _, _, _, _, _, _, _, _, _, fun post h => xc_17 (by omega) hc b3 h, fun post h => yc_17 h80 hp hl hc hD b4 h, sk_Ka h80 G K (by omega) K.2.1 b7 b5 (Or.inl ⟨rfl, by omega⟩) b6⟩
theorem ss_18 (h80 : T ≤ 80) (G : sk_G T c a nm nv (nI (sk_vs c T)) jm cp) (K : sk_K T c D E p t l rp ct cm po yc ye) (hc : c p = 18) : ∃ e : Int32, (∀ post : Int32 → Prop, post e → wpX_whyStop post (xT, tr, ep, ind, nI (sk_vs c T), pc, nI D, nI E, nI p, nI t, nI (l + 1), c, a, nm, nv, ps, pst, psk, jm, cp, stk, em, ce, rp, ct, cm)) ∧ (∀ post : Int32 → Prop, post e → wpY_obstacle post (nI T, tr, ep, nI D, nI E, nI l, nI t, c, a, stk, em, ce, po, yc, ye) (nI p)) ∧ (e = 0 →
    (∃ (D1 E1 p1 t1 l1 : Nat) (stk1 em1 ce1 rp1 ct1 cm1 po1 yc1 ye1 : Nat → Int32), (∀ post : SX → Prop, post (xT, tr, ep, ind, nI (sk_vs c T), pc, nI D1, nI E1, nI p1, nI t1, nI (l1 + 1), c, a, nm, nv, ps, pst, psk, jm, cp, stk1, em1, ce1, rp1, ct1, cm1) → wpX_carryOut post (xT, tr, ep, ind, nI (sk_vs c T), pc, nI D, nI E, nI p, nI t, nI (l + 1), c, a, nm, nv, ps, pst, psk, jm, cp, stk, em, ce, rp, ct, cm)) ∧ (∀ post : SY → Prop, post (nI T, tr, ep, nI D1, nI E1, nI l1, nI t1, c, a, stk1, em1, ce1, po1, yc1, ye1) → wpY_carryOut post (nI T, tr, ep, nI D, nI E, nI l, nI t, c, a, stk, em, ce, po, yc, ye) (nI p)) ∧ sk_K T c D1 E1 p1 t1 l1 rp1 ct1 cm1 po1 yc1 ye1 ∧ sk_M po1 l1 t1 < sk_M po l t)
    ∨ (∃ cur1 : Int32, (∀ post : SX → Prop, post (xT, tr, ep, ind, nI (sk_vs c T), pc, nI D, nI E, cur1, nI t, nI 0, c, a, nm, nv, ps, pst, psk, jm, cp, stk, em, ce, rp, ct, cm) → wpX_carryOut post (xT, tr, ep, ind, nI (sk_vs c T), pc, nI D, nI E, nI p, nI t, nI (l + 1), c, a, nm, nv, ps, pst, psk, jm, cp, stk, em, ce, rp, ct, cm)) ∧ (∀ post : SY → Prop, post (nI T, tr, ep, nI D, nI E, nI 0 - 1, nI t, c, a, stk, em, ce, po, yc, ye) → wpY_carryOut post (nI T, tr, ep, nI D, nI E, nI l, nI t, c, a, stk, em, ce, po, yc, ye) (nI p)))) := by
  have hp := K.2.2.2.2.1.1
  have hl := K.2.2.2.1
  have hi := K.2.2.2.2.1.2.1
  have O := (G.1 p hp).2 hi
  obtain ⟨e, wX, wY, wF⟩ := sw_18 (xT := xT) (tr := tr) (ep := ep) (ind := ind) (pc := pc) (a := a) (nm := nm) (nv := nv) (ps := ps) (pst := pst) (psk := psk) (jm := jm) (cp := cp) (stk := stk) (em := em) (ce := ce) (rp := rp) (ct := ct) (cm := cm) (po := po) (yc := yc) (ye := ye) h80 hp K.1 K.2.1 K.2.2.1 hl G.2.2.2.1 hc
  refine ⟨e, wX, wY, fun he => ?_⟩
  obtain ⟨F1, F2⟩ := wF he
  clear wX wY wF
  have hD := K.1
  exact Or.inl ⟨D, E, p + 1, t, l, _, _, _, _, _, _, _, _, _, fun post h => xc_18 (by omega) hc h, fun post h => yc_18 h80 hp hl hc hD h, sk_Kn h80 G K hD K.2.1 rfl (by rw [hc]; decide) (sk_Sc (by rw [hc]; decide))⟩
theorem ss_19 (h80 : T ≤ 80) (G : sk_G T c a nm nv (nI (sk_vs c T)) jm cp) (K : sk_K T c D E p t l rp ct cm po yc ye) (hc : c p = 19) : ∃ e : Int32, (∀ post : Int32 → Prop, post e → wpX_whyStop post (xT, tr, ep, ind, nI (sk_vs c T), pc, nI D, nI E, nI p, nI t, nI (l + 1), c, a, nm, nv, ps, pst, psk, jm, cp, stk, em, ce, rp, ct, cm)) ∧ (∀ post : Int32 → Prop, post e → wpY_obstacle post (nI T, tr, ep, nI D, nI E, nI l, nI t, c, a, stk, em, ce, po, yc, ye) (nI p)) ∧ (e = 0 →
    (∃ (D1 E1 p1 t1 l1 : Nat) (stk1 em1 ce1 rp1 ct1 cm1 po1 yc1 ye1 : Nat → Int32), (∀ post : SX → Prop, post (xT, tr, ep, ind, nI (sk_vs c T), pc, nI D1, nI E1, nI p1, nI t1, nI (l1 + 1), c, a, nm, nv, ps, pst, psk, jm, cp, stk1, em1, ce1, rp1, ct1, cm1) → wpX_carryOut post (xT, tr, ep, ind, nI (sk_vs c T), pc, nI D, nI E, nI p, nI t, nI (l + 1), c, a, nm, nv, ps, pst, psk, jm, cp, stk, em, ce, rp, ct, cm)) ∧ (∀ post : SY → Prop, post (nI T, tr, ep, nI D1, nI E1, nI l1, nI t1, c, a, stk1, em1, ce1, po1, yc1, ye1) → wpY_carryOut post (nI T, tr, ep, nI D, nI E, nI l, nI t, c, a, stk, em, ce, po, yc, ye) (nI p)) ∧ sk_K T c D1 E1 p1 t1 l1 rp1 ct1 cm1 po1 yc1 ye1 ∧ sk_M po1 l1 t1 < sk_M po l t)
    ∨ (∃ cur1 : Int32, (∀ post : SX → Prop, post (xT, tr, ep, ind, nI (sk_vs c T), pc, nI D, nI E, cur1, nI t, nI 0, c, a, nm, nv, ps, pst, psk, jm, cp, stk, em, ce, rp, ct, cm) → wpX_carryOut post (xT, tr, ep, ind, nI (sk_vs c T), pc, nI D, nI E, nI p, nI t, nI (l + 1), c, a, nm, nv, ps, pst, psk, jm, cp, stk, em, ce, rp, ct, cm)) ∧ (∀ post : SY → Prop, post (nI T, tr, ep, nI D, nI E, nI 0 - 1, nI t, c, a, stk, em, ce, po, yc, ye) → wpY_carryOut post (nI T, tr, ep, nI D, nI E, nI l, nI t, c, a, stk, em, ce, po, yc, ye) (nI p)))) := by
  have hp := K.2.2.2.2.1.1
  have hl := K.2.2.2.1
  have hi := K.2.2.2.2.1.2.1
  have O := (G.1 p hp).2 hi
  obtain ⟨e, wX, wY, wF⟩ := sw_19 (xT := xT) (tr := tr) (ep := ep) (ind := ind) (pc := pc) (a := a) (nm := nm) (nv := nv) (ps := ps) (pst := pst) (psk := psk) (jm := jm) (cp := cp) (stk := stk) (em := em) (ce := ce) (rp := rp) (ct := ct) (cm := cm) (po := po) (yc := yc) (ye := ye) h80 hp K.1 K.2.1 K.2.2.1 hl G.2.2.2.1 hc
  refine ⟨e, wX, wY, fun he => ?_⟩
  obtain ⟨F1, F2⟩ := wF he
  clear wX wY wF
  have hD := K.1
  exact Or.inl ⟨D, E, p + 1, t, l, _, _, _, _, _, _, _, _, _, fun post h => xc_19 (by omega) hc h, fun post h => yc_19 h80 hp hl hc hD h, sk_Kn h80 G K hD K.2.1 rfl (by rw [hc]; decide) (sk_So (by rw [hc]; decide) (by rw [hc]; decide))⟩
theorem ss_20 (h80 : T ≤ 80) (G : sk_G T c a nm nv (nI (sk_vs c T)) jm cp) (K : sk_K T c D E p t l rp ct cm po yc ye) (hc : c p = 20) : ∃ e : Int32, (∀ post : Int32 → Prop, post e → wpX_whyStop post (xT, tr, ep, ind, nI (sk_vs c T), pc, nI D, nI E, nI p, nI t, nI (l + 1), c, a, nm, nv, ps, pst, psk, jm, cp, stk, em, ce, rp, ct, cm)) ∧ (∀ post : Int32 → Prop, post e → wpY_obstacle post (nI T, tr, ep, nI D, nI E, nI l, nI t, c, a, stk, em, ce, po, yc, ye) (nI p)) ∧ (e = 0 →
    (∃ (D1 E1 p1 t1 l1 : Nat) (stk1 em1 ce1 rp1 ct1 cm1 po1 yc1 ye1 : Nat → Int32), (∀ post : SX → Prop, post (xT, tr, ep, ind, nI (sk_vs c T), pc, nI D1, nI E1, nI p1, nI t1, nI (l1 + 1), c, a, nm, nv, ps, pst, psk, jm, cp, stk1, em1, ce1, rp1, ct1, cm1) → wpX_carryOut post (xT, tr, ep, ind, nI (sk_vs c T), pc, nI D, nI E, nI p, nI t, nI (l + 1), c, a, nm, nv, ps, pst, psk, jm, cp, stk, em, ce, rp, ct, cm)) ∧ (∀ post : SY → Prop, post (nI T, tr, ep, nI D1, nI E1, nI l1, nI t1, c, a, stk1, em1, ce1, po1, yc1, ye1) → wpY_carryOut post (nI T, tr, ep, nI D, nI E, nI l, nI t, c, a, stk, em, ce, po, yc, ye) (nI p)) ∧ sk_K T c D1 E1 p1 t1 l1 rp1 ct1 cm1 po1 yc1 ye1 ∧ sk_M po1 l1 t1 < sk_M po l t)
    ∨ (∃ cur1 : Int32, (∀ post : SX → Prop, post (xT, tr, ep, ind, nI (sk_vs c T), pc, nI D, nI E, cur1, nI t, nI 0, c, a, nm, nv, ps, pst, psk, jm, cp, stk, em, ce, rp, ct, cm) → wpX_carryOut post (xT, tr, ep, ind, nI (sk_vs c T), pc, nI D, nI E, nI p, nI t, nI (l + 1), c, a, nm, nv, ps, pst, psk, jm, cp, stk, em, ce, rp, ct, cm)) ∧ (∀ post : SY → Prop, post (nI T, tr, ep, nI D, nI E, nI 0 - 1, nI t, c, a, stk, em, ce, po, yc, ye) → wpY_carryOut post (nI T, tr, ep, nI D, nI E, nI l, nI t, c, a, stk, em, ce, po, yc, ye) (nI p)))) := by
  have hp := K.2.2.2.2.1.1
  have hl := K.2.2.2.1
  have hi := K.2.2.2.2.1.2.1
  have O := (G.1 p hp).2 hi
  obtain ⟨e, wX, wY, wF⟩ := sw_20 (xT := xT) (tr := tr) (ep := ep) (ind := ind) (pc := pc) (a := a) (nm := nm) (nv := nv) (ps := ps) (pst := pst) (psk := psk) (jm := jm) (cp := cp) (stk := stk) (em := em) (ce := ce) (rp := rp) (ct := ct) (cm := cm) (po := po) (yc := yc) (ye := ye) h80 hp K.1 K.2.1 K.2.2.1 hl G.2.2.2.1 hc
  refine ⟨e, wX, wY, fun he => ?_⟩
  obtain ⟨F1, F2⟩ := wF he
  clear wX wY wF
  obtain ⟨d, rfl⟩ : ∃ d, D = d + 1 := ⟨D - 1, by omega⟩
  have hD := K.1
  by_cases hz : stk d = 0
  · obtain ⟨s, k, u, hR, hj⟩ := (G.2.2.2.2.2.2.1 p hp).2 (Or.inl hc)
    have TT : ∀ q, q < p → sk_Tk c a q := fun q hq => G.1 q (by omega)
    obtain ⟨s1, s2, s3, s4, s5⟩ := sk_Sb TT hR
    exact Or.inl ⟨d, E, s + 1, t + 1, l, _, _, _, _, _, _, _, _, _, fun post h => xc_20T (by omega) hc (by omega) hz hj h, fun post h => yc_20T h80 hp hl hc (by omega) hz hR h, sk_Ka h80 G K (by omega) K.2.1 (by omega) s2 (Or.inr ⟨rfl, F2 hz⟩) s5⟩
  · exact Or.inl ⟨d, E, p + 1, t, l, _, _, _, _, _, _, _, _, _, fun post h => xc_20F (by omega) hc (by omega) hz h, fun post h => yc_20F h80 hp hl hc (by omega) hz h, sk_Kn h80 G K (by omega) K.2.1 rfl (by rw [hc]; decide) (sk_Sc (by rw [hc]; decide))⟩
theorem ss_22 (h80 : T ≤ 80) (G : sk_G T c a nm nv (nI (sk_vs c T)) jm cp) (K : sk_K T c D E p t l rp ct cm po yc ye) (hc : c p = 22) : ∃ e : Int32, (∀ post : Int32 → Prop, post e → wpX_whyStop post (xT, tr, ep, ind, nI (sk_vs c T), pc, nI D, nI E, nI p, nI t, nI (l + 1), c, a, nm, nv, ps, pst, psk, jm, cp, stk, em, ce, rp, ct, cm)) ∧ (∀ post : Int32 → Prop, post e → wpY_obstacle post (nI T, tr, ep, nI D, nI E, nI l, nI t, c, a, stk, em, ce, po, yc, ye) (nI p)) ∧ (e = 0 →
    (∃ (D1 E1 p1 t1 l1 : Nat) (stk1 em1 ce1 rp1 ct1 cm1 po1 yc1 ye1 : Nat → Int32), (∀ post : SX → Prop, post (xT, tr, ep, ind, nI (sk_vs c T), pc, nI D1, nI E1, nI p1, nI t1, nI (l1 + 1), c, a, nm, nv, ps, pst, psk, jm, cp, stk1, em1, ce1, rp1, ct1, cm1) → wpX_carryOut post (xT, tr, ep, ind, nI (sk_vs c T), pc, nI D, nI E, nI p, nI t, nI (l + 1), c, a, nm, nv, ps, pst, psk, jm, cp, stk, em, ce, rp, ct, cm)) ∧ (∀ post : SY → Prop, post (nI T, tr, ep, nI D1, nI E1, nI l1, nI t1, c, a, stk1, em1, ce1, po1, yc1, ye1) → wpY_carryOut post (nI T, tr, ep, nI D, nI E, nI l, nI t, c, a, stk, em, ce, po, yc, ye) (nI p)) ∧ sk_K T c D1 E1 p1 t1 l1 rp1 ct1 cm1 po1 yc1 ye1 ∧ sk_M po1 l1 t1 < sk_M po l t)
    ∨ (∃ cur1 : Int32, (∀ post : SX → Prop, post (xT, tr, ep, ind, nI (sk_vs c T), pc, nI D, nI E, cur1, nI t, nI 0, c, a, nm, nv, ps, pst, psk, jm, cp, stk, em, ce, rp, ct, cm) → wpX_carryOut post (xT, tr, ep, ind, nI (sk_vs c T), pc, nI D, nI E, nI p, nI t, nI (l + 1), c, a, nm, nv, ps, pst, psk, jm, cp, stk, em, ce, rp, ct, cm)) ∧ (∀ post : SY → Prop, post (nI T, tr, ep, nI D, nI E, nI 0 - 1, nI t, c, a, stk, em, ce, po, yc, ye) → wpY_carryOut post (nI T, tr, ep, nI D, nI E, nI l, nI t, c, a, stk, em, ce, po, yc, ye) (nI p)))) := by
  have hp := K.2.2.2.2.1.1
  have hl := K.2.2.2.1
  have hi := K.2.2.2.2.1.2.1
  have O := (G.1 p hp).2 hi
  obtain ⟨e, wX, wY, wF⟩ := sw_22 (xT := xT) (tr := tr) (ep := ep) (ind := ind) (pc := pc) (a := a) (nm := nm) (nv := nv) (ps := ps) (pst := pst) (psk := psk) (jm := jm) (cp := cp) (stk := stk) (em := em) (ce := ce) (rp := rp) (ct := ct) (cm := cm) (po := po) (yc := yc) (ye := ye) h80 hp K.1 K.2.1 K.2.2.1 hl G.2.2.2.1 hc
  refine ⟨e, wX, wY, fun he => ?_⟩
  obtain ⟨F1, F2⟩ := wF he
  clear wX wY wF
  have hD := K.1
  obtain ⟨s, k, u, hR, hj⟩ := (G.2.2.2.2.2.2.1 p hp).2 (Or.inr (Or.inl hc))
  have TT : ∀ q, q < p → sk_Tk c a q := fun q hq => G.1 q (by omega)
  obtain ⟨s1, s2, s3, s4, s5⟩ := sk_Sb TT hR
  exact Or.inl ⟨D, E, s + 1, t + 1, l, _, _, _, _, _, _, _, _, _, fun post h => xc_22 (by omega) hc hj h, fun post h => yc_22 h80 hp hl hc hD hR h, sk_Ka h80 G K hD K.2.1 (by omega) s2 (Or.inr ⟨rfl, F2⟩) s5⟩
theorem ss_23 (h80 : T ≤ 80) (G : sk_G T c a nm nv (nI (sk_vs c T)) jm cp) (K : sk_K T c D E p t l rp ct cm po yc ye) (hc : c p = 23) : ∃ e : Int32, (∀ post : Int32 → Prop, post e → wpX_whyStop post (xT, tr, ep, ind, nI (sk_vs c T), pc, nI D, nI E, nI p, nI t, nI (l + 1), c, a, nm, nv, ps, pst, psk, jm, cp, stk, em, ce, rp, ct, cm)) ∧ (∀ post : Int32 → Prop, post e → wpY_obstacle post (nI T, tr, ep, nI D, nI E, nI l, nI t, c, a, stk, em, ce, po, yc, ye) (nI p)) ∧ (e = 0 →
    (∃ (D1 E1 p1 t1 l1 : Nat) (stk1 em1 ce1 rp1 ct1 cm1 po1 yc1 ye1 : Nat → Int32), (∀ post : SX → Prop, post (xT, tr, ep, ind, nI (sk_vs c T), pc, nI D1, nI E1, nI p1, nI t1, nI (l1 + 1), c, a, nm, nv, ps, pst, psk, jm, cp, stk1, em1, ce1, rp1, ct1, cm1) → wpX_carryOut post (xT, tr, ep, ind, nI (sk_vs c T), pc, nI D, nI E, nI p, nI t, nI (l + 1), c, a, nm, nv, ps, pst, psk, jm, cp, stk, em, ce, rp, ct, cm)) ∧ (∀ post : SY → Prop, post (nI T, tr, ep, nI D1, nI E1, nI l1, nI t1, c, a, stk1, em1, ce1, po1, yc1, ye1) → wpY_carryOut post (nI T, tr, ep, nI D, nI E, nI l, nI t, c, a, stk, em, ce, po, yc, ye) (nI p)) ∧ sk_K T c D1 E1 p1 t1 l1 rp1 ct1 cm1 po1 yc1 ye1 ∧ sk_M po1 l1 t1 < sk_M po l t)
    ∨ (∃ cur1 : Int32, (∀ post : SX → Prop, post (xT, tr, ep, ind, nI (sk_vs c T), pc, nI D, nI E, cur1, nI t, nI 0, c, a, nm, nv, ps, pst, psk, jm, cp, stk, em, ce, rp, ct, cm) → wpX_carryOut post (xT, tr, ep, ind, nI (sk_vs c T), pc, nI D, nI E, nI p, nI t, nI (l + 1), c, a, nm, nv, ps, pst, psk, jm, cp, stk, em, ce, rp, ct, cm)) ∧ (∀ post : SY → Prop, post (nI T, tr, ep, nI D, nI E, nI 0 - 1, nI t, c, a, stk, em, ce, po, yc, ye) → wpY_carryOut post (nI T, tr, ep, nI D, nI E, nI l, nI t, c, a, stk, em, ce, po, yc, ye) (nI p)))) := by
  have hp := K.2.2.2.2.1.1
  have hl := K.2.2.2.1
  have hi := K.2.2.2.2.1.2.1
  have O := (G.1 p hp).2 hi
  obtain ⟨e, wX, wY, wF⟩ := sw_23 (xT := xT) (tr := tr) (ep := ep) (ind := ind) (pc := pc) (a := a) (nm := nm) (nv := nv) (ps := ps) (pst := pst) (psk := psk) (jm := jm) (cp := cp) (stk := stk) (em := em) (ce := ce) (rp := rp) (ct := ct) (cm := cm) (po := po) (yc := yc) (ye := ye) h80 hp K.1 K.2.1 K.2.2.1 hl G.2.2.2.1 hc
  refine ⟨e, wX, wY, fun he => ?_⟩
  obtain ⟨F1, F2⟩ := wF he
  clear wX wY wF
  obtain ⟨d, rfl⟩ : ∃ d, D = d + 1 := ⟨D - 1, by omega⟩
  have hD := K.1
  have l6 := O.2.2.1 (by rw [hc]; decide)
  have hcp := (G.2.2.2.2.2.2.2 p hp).1 hc
  by_cases hz : 0 < stk d
  · exact Or.inl ⟨d, E, p + 1, t, l, _, _, _, _, _, _, _, _, _, fun post h => xc_23T (by omega) hc (by omega) hz hcp (by omega) h, fun post h => yc_23T h80 hp hl hc (by omega) hz h, sk_Kt h80 G K (by omega) hc⟩
  · obtain ⟨b, b1, b2, b3, b4, b5, b6⟩ := (G.2.2.2.2.2.2.1 p hp).1 (Or.inr (Or.inr (Or.inr hc)))
    have b7 := sk_lt G (p := b + 1) (by omega) b5
    rw [show decide (c p = 16) = false from decide_eq_false (by rw [hc]; decide)] at b4
    exact Or.inl ⟨d, E, b + 1, t, l, _, _, _, _, _, _, _, _, _, fun post h => xc_23F (by omega) hc (by omega) hz b3 h, fun post h => yc_23F h80 hp hl hc (by omega) hz b4 h, sk_Ku h80 G K (by omega) b7 b5 (by omega) b6⟩
theorem ss_24 (h80 : T ≤ 80) (G : sk_G T c a nm nv (nI (sk_vs c T)) jm cp) (K : sk_K T c D E p t l rp ct cm po yc ye) (hc : c p = 24) : ∃ e : Int32, (∀ post : Int32 → Prop, post e → wpX_whyStop post (xT, tr, ep, ind, nI (sk_vs c T), pc, nI D, nI E, nI p, nI t, nI (l + 1), c, a, nm, nv, ps, pst, psk, jm, cp, stk, em, ce, rp, ct, cm)) ∧ (∀ post : Int32 → Prop, post e → wpY_obstacle post (nI T, tr, ep, nI D, nI E, nI l, nI t, c, a, stk, em, ce, po, yc, ye) (nI p)) ∧ (e = 0 →
    (∃ (D1 E1 p1 t1 l1 : Nat) (stk1 em1 ce1 rp1 ct1 cm1 po1 yc1 ye1 : Nat → Int32), (∀ post : SX → Prop, post (xT, tr, ep, ind, nI (sk_vs c T), pc, nI D1, nI E1, nI p1, nI t1, nI (l1 + 1), c, a, nm, nv, ps, pst, psk, jm, cp, stk1, em1, ce1, rp1, ct1, cm1) → wpX_carryOut post (xT, tr, ep, ind, nI (sk_vs c T), pc, nI D, nI E, nI p, nI t, nI (l + 1), c, a, nm, nv, ps, pst, psk, jm, cp, stk, em, ce, rp, ct, cm)) ∧ (∀ post : SY → Prop, post (nI T, tr, ep, nI D1, nI E1, nI l1, nI t1, c, a, stk1, em1, ce1, po1, yc1, ye1) → wpY_carryOut post (nI T, tr, ep, nI D, nI E, nI l, nI t, c, a, stk, em, ce, po, yc, ye) (nI p)) ∧ sk_K T c D1 E1 p1 t1 l1 rp1 ct1 cm1 po1 yc1 ye1 ∧ sk_M po1 l1 t1 < sk_M po l t)
    ∨ (∃ cur1 : Int32, (∀ post : SX → Prop, post (xT, tr, ep, ind, nI (sk_vs c T), pc, nI D, nI E, cur1, nI t, nI 0, c, a, nm, nv, ps, pst, psk, jm, cp, stk, em, ce, rp, ct, cm) → wpX_carryOut post (xT, tr, ep, ind, nI (sk_vs c T), pc, nI D, nI E, nI p, nI t, nI (l + 1), c, a, nm, nv, ps, pst, psk, jm, cp, stk, em, ce, rp, ct, cm)) ∧ (∀ post : SY → Prop, post (nI T, tr, ep, nI D, nI E, nI 0 - 1, nI t, c, a, stk, em, ce, po, yc, ye) → wpY_carryOut post (nI T, tr, ep, nI D, nI E, nI l, nI t, c, a, stk, em, ce, po, yc, ye) (nI p)))) := by
  have hp := K.2.2.2.2.1.1
  have hl := K.2.2.2.1
  have hi := K.2.2.2.2.1.2.1
  have O := (G.1 p hp).2 hi
  obtain ⟨e, wX, wY, wF⟩ := sw_24 (xT := xT) (tr := tr) (ep := ep) (ind := ind) (pc := pc) (a := a) (nm := nm) (nv := nv) (ps := ps) (pst := pst) (psk := psk) (jm := jm) (cp := cp) (stk := stk) (em := em) (ce := ce) (rp := rp) (ct := ct) (cm := cm) (po := po) (yc := yc) (ye := ye) h80 hp K.1 K.2.1 K.2.2.1 hl G.2.2.2.1 hc
  refine ⟨e, wX, wY, fun he => ?_⟩
  obtain ⟨F1, F2⟩ := wF he
  clear wX wY wF
  have hD := K.1
  obtain ⟨s, k, u, hR, hj⟩ := (G.2.2.2.2.2.2.1 p hp).2 (Or.inr (Or.inr hc))
  have TT : ∀ q, q < p → sk_Tk c a q := fun q hq => G.1 q (by omega)
  obtain ⟨s1, s2, s3, s4, s5⟩ := sk_Sb TT hR
  obtain ⟨s', k', u', hR', hcp⟩ := (G.2.2.2.2.2.2.2 p hp).2.1 hc
  rw [hR] at hR'
  cases hR'
  have hk23 : c k = 23 := by
    have := O.2.2.2.2.2.2.2.2.1 hc
    rw [hR] at this
    exact this
  have l6 := sk_R6 TT
  rw [hR, List.length_cons] at l6
  have cn := K.2.2.2.2.1.2.2.2 (s, k) (by rw [hR]; exact List.mem_cons_self ..) (s4.mp hk23)
  have cn : ct (l * 6 + (sk_R c s).length) = yc (80 * l + s) ∧ cm (l * 6 + (sk_R c s).length) = ye (80 * l + s) := cn
  rw [s3] at cn
  obtain ⟨cn1, cn2⟩ := cn
  have nn := sk_nx G hp hi (by rw [hc]; decide)
  by_cases hk : cm (l * 6 + u.length) ≤ ct (l * 6 + u.length) + 1
  · exact Or.inl ⟨D, E, p + 1, t + 1, l, stk, em, ce, rp, upd ct (l * 6 + u.length) (ct (l * 6 + u.length) + 1), cm, upd po l (nI (p + 1)), upd yc (80 * l + s) (ct (l * 6 + u.length) + 1), ye, fun post h => xc_24T (by omega) hc hcp (by omega) hk h, fun post h => yc_24T h80 hp hl hc hD hR (by omega) (by rw [← cn1, ← cn2]; exact hk) (by rw [← cn1]; exact h), sk_Kx h80 G K F2 hR s3 nn.1 nn.2 (sk_Sc (by rw [hc]; decide))⟩
  · exact Or.inl ⟨D, E, s + 1, t + 1, l, stk, em, ce, rp, upd ct (l * 6 + u.length) (ct (l * 6 + u.length) + 1), cm, upd po l (nI (s + 1)), upd yc (80 * l + s) (ct (l * 6 + u.length) + 1), ye, fun post h => xc_24F (by omega) hc hcp (by omega) hk hj h, fun post h => yc_24F h80 hp hl hc hD hR (by omega) (by rw [← cn1, ← cn2]; exact hk) (by rw [← cn1]; exact h), sk_Kx h80 G K F2 hR s3 (by omega) s2 s5⟩
theorem ss_25 (h80 : T ≤ 80) (G : sk_G T c a nm nv (nI (sk_vs c T)) jm cp) (K : sk_K T c D E p t l rp ct cm po yc ye) (hc : c p = 25) : ∃ e : Int32, (∀ post : Int32 → Prop, post e → wpX_whyStop post (xT, tr, ep, ind, nI (sk_vs c T), pc, nI D, nI E, nI p, nI t, nI (l + 1), c, a, nm, nv, ps, pst, psk, jm, cp, stk, em, ce, rp, ct, cm)) ∧ (∀ post : Int32 → Prop, post e → wpY_obstacle post (nI T, tr, ep, nI D, nI E, nI l, nI t, c, a, stk, em, ce, po, yc, ye) (nI p)) ∧ (e = 0 →
    (∃ (D1 E1 p1 t1 l1 : Nat) (stk1 em1 ce1 rp1 ct1 cm1 po1 yc1 ye1 : Nat → Int32), (∀ post : SX → Prop, post (xT, tr, ep, ind, nI (sk_vs c T), pc, nI D1, nI E1, nI p1, nI t1, nI (l1 + 1), c, a, nm, nv, ps, pst, psk, jm, cp, stk1, em1, ce1, rp1, ct1, cm1) → wpX_carryOut post (xT, tr, ep, ind, nI (sk_vs c T), pc, nI D, nI E, nI p, nI t, nI (l + 1), c, a, nm, nv, ps, pst, psk, jm, cp, stk, em, ce, rp, ct, cm)) ∧ (∀ post : SY → Prop, post (nI T, tr, ep, nI D1, nI E1, nI l1, nI t1, c, a, stk1, em1, ce1, po1, yc1, ye1) → wpY_carryOut post (nI T, tr, ep, nI D, nI E, nI l, nI t, c, a, stk, em, ce, po, yc, ye) (nI p)) ∧ sk_K T c D1 E1 p1 t1 l1 rp1 ct1 cm1 po1 yc1 ye1 ∧ sk_M po1 l1 t1 < sk_M po l t)
    ∨ (∃ cur1 : Int32, (∀ post : SX → Prop, post (xT, tr, ep, ind, nI (sk_vs c T), pc, nI D, nI E, cur1, nI t, nI 0, c, a, nm, nv, ps, pst, psk, jm, cp, stk, em, ce, rp, ct, cm) → wpX_carryOut post (xT, tr, ep, ind, nI (sk_vs c T), pc, nI D, nI E, nI p, nI t, nI (l + 1), c, a, nm, nv, ps, pst, psk, jm, cp, stk, em, ce, rp, ct, cm)) ∧ (∀ post : SY → Prop, post (nI T, tr, ep, nI D, nI E, nI 0 - 1, nI t, c, a, stk, em, ce, po, yc, ye) → wpY_carryOut post (nI T, tr, ep, nI D, nI E, nI l, nI t, c, a, stk, em, ce, po, yc, ye) (nI p)))) := by
  have hp := K.2.2.2.2.1.1
  have hl := K.2.2.2.1
  have hi := K.2.2.2.2.1.2.1
  have O := (G.1 p hp).2 hi
  obtain ⟨e, wX, wY, wF⟩ := sw_25 (xT := xT) (tr := tr) (ep := ep) (ind := ind) (pc := pc) (a := a) (nm := nm) (nv := nv) (ps := ps) (pst := pst) (psk := psk) (jm := jm) (cp := cp) (stk := stk) (em := em) (ce := ce) (rp := rp) (ct := ct) (cm := cm) (po := po) (yc := yc) (ye := ye) h80 hp K.1 K.2.1 K.2.2.1 hl G.2.2.2.1 hc
  refine ⟨e, wX, wY, fun he => ?_⟩
  obtain ⟨F1, F2⟩ := wF he
  clear wX wY wF
  have hD := K.1
  have TT : ∀ q, q < p → sk_Tk c a q := fun q hq => G.1 q (by omega)
  have hcp := (G.2.2.2.2.2.2.2 p hp).2.2 hc
  have l6 := sk_R6 TT
  have H := (sk_HIa TT).1
  rcases sk_tmS H with ⟨z, _⟩ | ⟨q, k, u, _, z2, z3, z4, z5, z6, z7⟩
  · exact absurd z (O.2.2.2.2.2.2.2.2.2.1 hc)
  · rw [z2] at hcp
    have hq := sk_HIlt (x := (q, k)) H z4
    have hq : q < p := hq
    have cn := K.2.2.2.2.1.2.2.2 (q, k) z4 z5
    have cn : ct (l * 6 + (sk_R c q).length) = yc (80 * l + q) ∧ cm (l * 6 + (sk_R c q).length) = ye (80 * l + q) := cn
    rw [z6] at cn
    exact Or.inl ⟨D + 1, E, p + 1, t, l, upd stk D (ct (l * 6 + u.length)), em, ce, rp, ct, cm, upd po l (nI (p + 1)), yc, ye, fun post h => xc_25 (by omega) hc F2 hcp (by omega) h, fun post h => yc_25 (by omega) hl hc (by omega) z3 F2 (by rw [← cn.1]; exact h), sk_Kn h80 G K (by omega) K.2.1 rfl (by rw [hc]; decide) (sk_Sp (sk_Rpl (by rw [hc]; decide) (by rw [hc]; decide) (by rw [hc]; decide) (by rw [hc]; decide)))⟩
theorem ss_27 (h80 : T ≤ 80) (G : sk_G T c a nm nv (nI (sk_vs c T)) jm cp) (K : sk_K T c D E p t l rp ct cm po yc ye) (hc : c p = 27) : ∃ e : Int32, (∀ post : Int32 → Prop, post e → wpX_whyStop post (xT, tr, ep, ind, nI (sk_vs c T), pc, nI D, nI E, nI p, nI t, nI (l + 1), c, a, nm, nv, ps, pst, psk, jm, cp, stk, em, ce, rp, ct, cm)) ∧ (∀ post : Int32 → Prop, post e → wpY_obstacle post (nI T, tr, ep, nI D, nI E, nI l, nI t, c, a, stk, em, ce, po, yc, ye) (nI p)) ∧ (e = 0 →
    (∃ (D1 E1 p1 t1 l1 : Nat) (stk1 em1 ce1 rp1 ct1 cm1 po1 yc1 ye1 : Nat → Int32), (∀ post : SX → Prop, post (xT, tr, ep, ind, nI (sk_vs c T), pc, nI D1, nI E1, nI p1, nI t1, nI (l1 + 1), c, a, nm, nv, ps, pst, psk, jm, cp, stk1, em1, ce1, rp1, ct1, cm1) → wpX_carryOut post (xT, tr, ep, ind, nI (sk_vs c T), pc, nI D, nI E, nI p, nI t, nI (l + 1), c, a, nm, nv, ps, pst, psk, jm, cp, stk, em, ce, rp, ct, cm)) ∧ (∀ post : SY → Prop, post (nI T, tr, ep, nI D1, nI E1, nI l1, nI t1, c, a, stk1, em1, ce1, po1, yc1, ye1) → wpY_carryOut post (nI T, tr, ep, nI D, nI E, nI l, nI t, c, a, stk, em, ce, po, yc, ye) (nI p)) ∧ sk_K T c D1 E1 p1 t1 l1 rp1 ct1 cm1 po1 yc1 ye1 ∧ sk_M po1 l1 t1 < sk_M po l t)
    ∨ (∃ cur1 : Int32, (∀ post : SX → Prop, post (xT, tr, ep, ind, nI (sk_vs c T), pc, nI D, nI E, cur1, nI t, nI 0, c, a, nm, nv, ps, pst, psk, jm, cp, stk, em, ce, rp, ct, cm) → wpX_carryOut post (xT, tr, ep, ind, nI (sk_vs c T), pc, nI D, nI E, nI p, nI t, nI (l + 1), c, a, nm, nv, ps, pst, psk, jm, cp, stk, em, ce, rp, ct, cm)) ∧ (∀ post : SY → Prop, post (nI T, tr, ep, nI D, nI E, nI 0 - 1, nI t, c, a, stk, em, ce, po, yc, ye) → wpY_carryOut post (nI T, tr, ep, nI D, nI E, nI l, nI t, c, a, stk, em, ce, po, yc, ye) (nI p)))) := by
  have hp := K.2.2.2.2.1.1
  have hl := K.2.2.2.1
  have hi := K.2.2.2.2.1.2.1
  have O := (G.1 p hp).2 hi
  obtain ⟨e, wX, wY, wF⟩ := sw_27 (xT := xT) (tr := tr) (ep := ep) (ind := ind) (pc := pc) (a := a) (nm := nm) (nv := nv) (ps := ps) (pst := pst) (psk := psk) (jm := jm) (cp := cp) (stk := stk) (em := em) (ce := ce) (rp := rp) (ct := ct) (cm := cm) (po := po) (yc := yc) (ye := ye) h80 hp K.1 K.2.1 K.2.2.1 hl G.2.2.2.1 hc
  refine ⟨e, wX, wY, fun he => ?_⟩
  obtain ⟨F1, F2⟩ := wF he
  clear wX wY wF
  have hD := K.1
  cases l with
  | zero => exact Or.inr ⟨rp 0, fun post h => xc_27 (by omega) hc (by omega) h, fun post h => yc_27 (by omega) hc h⟩
  | succ l =>
    obtain ⟨p1, hrp, K1, M1⟩ := sk_Ke h80 K
    refine Or.inl ⟨D, E, p1, t, l, stk, em, ce, rp, ct, cm, po, yc, ye, fun post h => xc_27 (by omega) hc (by omega) ?_, fun post h => yc_27 (by omega) hc ?_, K1, M1⟩
    · rw [hrp]; exact h
    · rw [nI_pred]; exact h
theorem ss_15 (h80 : T ≤ 80) (G : sk_G T c a nm nv (nI (sk_vs c T)) jm cp) (K : sk_K T c D E p t l rp ct cm po yc ye) (hc : c p = 15) : ∃ e : Int32, (∀ post : Int32 → Prop, post e → wpX_whyStop post (xT, tr, ep, ind, nI (sk_vs c T), pc, nI D, nI E, nI p, nI t, nI (l + 1), c, a, nm, nv, ps, pst, psk, jm, cp, stk, em, ce, rp, ct, cm)) ∧ (∀ post : Int32 → Prop, post e → wpY_obstacle post (nI T, tr, ep, nI D, nI E, nI l, nI t, c, a, stk, em, ce, po, yc, ye) (nI p)) ∧ (e = 0 →
    (∃ (D1 E1 p1 t1 l1 : Nat) (stk1 em1 ce1 rp1 ct1 cm1 po1 yc1 ye1 : Nat → Int32), (∀ post : SX → Prop, post (xT, tr, ep, ind, nI (sk_vs c T), pc, nI D1, nI E1, nI p1, nI t1, nI (l1 + 1), c, a, nm, nv, ps, pst, psk, jm, cp, stk1, em1, ce1, rp1, ct1, cm1) → wpX_carryOut post (xT, tr, ep, ind, nI (sk_vs c T), pc, nI D, nI E, nI p, nI t, nI (l + 1), c, a, nm, nv, ps, pst, psk, jm, cp, stk, em, ce, rp, ct, cm)) ∧ (∀ post : SY → Prop, post (nI T, tr, ep, nI D1, nI E1, nI l1, nI t1, c, a, stk1, em1, ce1, po1, yc1, ye1) → wpY_carryOut post (nI T, tr, ep, nI D, nI E, nI l, nI t, c, a, stk, em, ce, po, yc, ye) (nI p)) ∧ sk_K T c D1 E1 p1 t1 l1 rp1 ct1 cm1 po1 yc1 ye1 ∧ sk_M po1 l1 t1 < sk_M po l t)
    ∨ (∃ cur1 : Int32, (∀ post : SX → Prop, post (xT, tr, ep, ind, nI (sk_vs c T), pc, nI D, nI E, cur1, nI t, nI 0, c, a, nm, nv, ps, pst, psk, jm, cp, stk, em, ce, rp, ct, cm) → wpX_carryOut post (xT, tr, ep, ind, nI (sk_vs c T), pc, nI D, nI E, nI p, nI t, nI (l + 1), c, a, nm, nv, ps, pst, psk, jm, cp, stk, em, ce, rp, ct, cm)) ∧ (∀ post : SY → Prop, post (nI T, tr, ep, nI D, nI E, nI 0 - 1, nI t, c, a, stk, em, ce, po, yc, ye) → wpY_carryOut post (nI T, tr, ep, nI D, nI E, nI l, nI t, c, a, stk, em, ce, po, yc, ye) (nI p)))) := by
  have hp := K.2.2.2.2.1.1
  have hl := K.2.2.2.1
  have hi := K.2.2.2.2.1.2.1
  have O := (G.1 p hp).2 hi
  obtain ⟨n, hn, ha, hnz⟩ := G.2.2.2.2.2.1 p hp hc
  rcases G.2.2.2.2.1 n hn with ⟨z, _⟩ | ⟨q, hq, hd, hlq, hm⟩
  · exact absurd z hnz
  · obtain ⟨e, wX, wY, wF⟩ := sw_15 (xT := xT) (tr := tr) (ep := ep) (ind := ind) (pc := pc) (a := a) (nm := nm) (nv := nv) (ps := ps) (pst := pst) (psk := psk) (jm := jm) (cp := cp) (stk := stk) (em := em) (ce := ce) (rp := rp) (ct := ct) (cm := cm) (po := po) (yc := yc) (ye := ye) h80 hp K.1 K.2.1 K.2.2.1 hl G.2.2.2.1 hc hn ha hq hd hlq (hm.elim (fun y => Or.inl ⟨y.1, y.2.1⟩) (fun y => Or.inr ⟨y.1, y.2.1⟩))
    refine ⟨e, wX, wY, fun he => ?_⟩
    obtain ⟨F1, F2⟩ := wF he
    clear wX wY wF
    rcases hm with ⟨h26, m1, m2⟩ | ⟨h28, m1, m2⟩
    · obtain ⟨f1, f2⟩ := F1 m1
      exact Or.inl ⟨D, E, q + 1, t + 1, l + 1, stk, em, ce, upd rp (l + 1) (nI (p + 1)), ct, cm, upd (upd po l (nI (p + 1))) (l + 1) (nI (q + 1)), yc, ye, fun post h => xc_15W (by omega) hc hn ha f2 (by rw [m1]; decide) (by rw [m2]; exact h), fun post h => yc_15W h80 hp f2 hc ha hq hd hlq h26 h, sk_Kc h80 G K f1 f2 hc hq h26⟩
    · exact Or.inl ⟨D + 1, E, p + 1, t, l, upd stk D (nI (sk_vs c q)), em, ce, rp, ct, cm, upd po l (nI (p + 1)), yc, ye, fun post h => xc_15V (by omega) hc hn ha (F2 m1) m1 (by rw [m2]; exact h), fun post h => yc_15V h80 hp hl hc ha hq hd hlq (by rw [h28]; decide) (F2 m1) h, sk_Kn h80 G K (F2 m1) K.2.1 rfl (by rw [hc]; decide) (sk_Sp (sk_Rpl (by rw [hc]; decide) (by rw [hc]; decide) (by rw [hc]; decide) (by rw [hc]; decide)))⟩
theorem sk_28 {x : Int32} (h0 : ¬ x < 0) (h27 : ¬ 27 < x) : x = 0 ∨ x = 1 ∨ x = 2 ∨ x = 3 ∨ x = 4 ∨ x = 5 ∨ x = 6 ∨ x = 7 ∨ x = 8 ∨ x = 9 ∨ x = 10 ∨ x = 11 ∨ x = 12 ∨ x = 13 ∨ x = 14 ∨ x = 15 ∨ x = 16 ∨ x = 17 ∨ x = 18 ∨ x = 19 ∨ x = 20 ∨ x = 21 ∨ x = 22 ∨ x = 23 ∨ x = 24 ∨ x = 25 ∨ x = 26 ∨ x = 27 := by
  obtain ⟨j, hj, rfl⟩ := nI_of2 (M := 27) (n := 27) (by decide) h0 (Int32.not_lt.mp h27)
  have : j = 0 ∨ j = 1 ∨ j = 2 ∨ j = 3 ∨ j = 4 ∨ j = 5 ∨ j = 6 ∨ j = 7 ∨ j = 8 ∨ j = 9 ∨ j = 10 ∨ j = 11 ∨ j = 12 ∨ j = 13 ∨ j = 14 ∨ j = 15 ∨ j = 16 ∨ j = 17 ∨ j = 18 ∨ j = 19 ∨ j = 20 ∨ j = 21 ∨ j = 22 ∨ j = 23 ∨ j = 24 ∨ j = 25 ∨ j = 26 ∨ j = 27 := by omega
  rcases this with h | h | h | h | h | h | h | h | h | h | h | h | h | h | h | h | h | h | h | h | h | h | h | h | h | h | h | h <;> subst h <;> decide
theorem ss_all (h80 : T ≤ 80) (G : sk_G T c a nm nv (nI (sk_vs c T)) jm cp) (K : sk_K T c D E p t l rp ct cm po yc ye) : ∃ e : Int32, (∀ post : Int32 → Prop, post e → wpX_whyStop post (xT, tr, ep, ind, nI (sk_vs c T), pc, nI D, nI E, nI p, nI t, nI (l + 1), c, a, nm, nv, ps, pst, psk, jm, cp, stk, em, ce, rp, ct, cm)) ∧ (∀ post : Int32 → Prop, post e → wpY_obstacle post (nI T, tr, ep, nI D, nI E, nI l, nI t, c, a, stk, em, ce, po, yc, ye) (nI p)) ∧ (e = 0 →
    (∃ (D1 E1 p1 t1 l1 : Nat) (stk1 em1 ce1 rp1 ct1 cm1 po1 yc1 ye1 : Nat → Int32), (∀ post : SX → Prop, post (xT, tr, ep, ind, nI (sk_vs c T), pc, nI D1, nI E1, nI p1, nI t1, nI (l1 + 1), c, a, nm, nv, ps, pst, psk, jm, cp, stk1, em1, ce1, rp1, ct1, cm1) → wpX_carryOut post (xT, tr, ep, ind, nI (sk_vs c T), pc, nI D, nI E, nI p, nI t, nI (l + 1), c, a, nm, nv, ps, pst, psk, jm, cp, stk, em, ce, rp, ct, cm)) ∧ (∀ post : SY → Prop, post (nI T, tr, ep, nI D1, nI E1, nI l1, nI t1, c, a, stk1, em1, ce1, po1, yc1, ye1) → wpY_carryOut post (nI T, tr, ep, nI D, nI E, nI l, nI t, c, a, stk, em, ce, po, yc, ye) (nI p)) ∧ sk_K T c D1 E1 p1 t1 l1 rp1 ct1 cm1 po1 yc1 ye1 ∧ sk_M po1 l1 t1 < sk_M po l t)
    ∨ (∃ cur1 : Int32, (∀ post : SX → Prop, post (xT, tr, ep, ind, nI (sk_vs c T), pc, nI D, nI E, cur1, nI t, nI 0, c, a, nm, nv, ps, pst, psk, jm, cp, stk, em, ce, rp, ct, cm) → wpX_carryOut post (xT, tr, ep, ind, nI (sk_vs c T), pc, nI D, nI E, nI p, nI t, nI (l + 1), c, a, nm, nv, ps, pst, psk, jm, cp, stk, em, ce, rp, ct, cm)) ∧ (∀ post : SY → Prop, post (nI T, tr, ep, nI D, nI E, nI 0 - 1, nI t, c, a, stk, em, ce, po, yc, ye) → wpY_carryOut post (nI T, tr, ep, nI D, nI E, nI l, nI t, c, a, stk, em, ce, po, yc, ye) (nI p)))) := by
  have O := (G.1 p K.2.2.2.2.1.1).2 K.2.2.2.2.1.2.1
  rcases sk_28 O.1.1 O.1.2.1 with h | h | h | h | h | h | h | h | h | h | h | h | h | h | h | h | h | h | h | h | h | h | h | h | h | h | h | h
  · exact ss_0 h80 G K h
  · exact ss_1 h80 G K h
  · exact ss_2 h80 G K h
  · exact ss_3 h80 G K h
  · exact ss_4 h80 G K h
  · exact ss_5 h80 G K h
  · exact ss_6 h80 G K h
  · exact ss_7 h80 G K h
  · exact ss_8 h80 G K h
  · exact ss_9 h80 G K h
  · exact ss_10 h80 G K h
  · exact ss_11 h80 G K h
  · exact ss_12 h80 G K h
  · exact ss_13 h80 G K h
  · exact ss_14 h80 G K h
  · exact ss_15 h80 G K h
  · exact ss_16 h80 G K h
  · exact ss_17 h80 G K h
  · exact ss_18 h80 G K h
  · exact ss_19 h80 G K h
  · exact ss_20 h80 G K h
  · exact ss_21 h80 G K h
  · exact ss_22 h80 G K h
  · exact ss_23 h80 G K h
  · exact ss_24 h80 G K h
  · exact ss_25 h80 G K h
  · exact absurd h O.1.2.2
  · exact ss_27 h80 G K h
end
end
section
section
variable {xT tr ep ind vc pc xD xE cur tu ca yT yD yE lv yt : Int32} {c a nm nv ps pst psk jm cp stk em ce rp ct cm po yc ye : Nat → Int32}
variable {T : Nat}
theorem sr_loop (h80 : T ≤ 80) (G : sk_G T c a nm nv (nI (sk_vs c T)) jm cp) : ∀ (m s D E p t l : Nat) (stk em ce rp ct cm po yc ye : Nat → Int32), sk_K T c D E p t l rp ct cm po yc ye → sk_M po l t < m → s + m ≤ 20000 →
    ∃ (r : Int32) (u' : SX) (v' : SY), sk_Rel u' v'
    ∧ (∀ post : Int32 → SX → Prop, post r u' → wX_run_56 post (m + 1) 0 (nI s) (nI T) 1 ep ind (nI (sk_vs c T)) pc (nI D) (nI E) (nI p) (nI t) (nI (l + 1)) c a nm nv ps pst psk jm cp stk em ce rp ct cm)
    ∧ (∀ post : Int32 → SY → Prop, post r v' → wY_run_71 post m (nI s) (nI T) 1 ep (nI D) (nI E) (nI l) (nI t) c a stk em ce po yc ye)
  | 0, s, D, E, p, t, l, stk, em, ce, rp, ct, cm, po, yc, ye, K, hM, hs => by omega
  | m + 1, s, D, E, p, t, l, stk, em, ce, rp, ct, cm, po, yc, ye, K, hM, hs => by
    have hp := K.2.2.2.2.1.1
    have hl := K.2.2.2.1
    have hpo := K.2.2.2.2.1.2.2.1
    have bX : ∀ k, k ≤ 20001 → ¬ (1000000 : Int32) ≤ nI k := fun k hk => nI_ge (b := 1000000) (by omega) (by omega)
    have bY : ∀ k, k ≤ 20001 → ¬ (128640 : Int32) ≤ nI k := fun k hk => nI_ge (b := 128640) (by omega) (by omega)
    have cl1 : ¬ nI (l + 1) ≤ 0 := nI_nle (by omega) (by omega)
    obtain ⟨e, wX, wY, wF⟩ := ss_all (xT := nI T) (tr := 1) (ep := ep) (ind := ind) (pc := pc) (c := c) (a := a) (nm := nm) (nv := nv) (ps := ps) (pst := pst) (psk := psk) (jm := jm) (cp := cp) (stk := stk) (em := em) (ce := ce) (rp := rp) (ct := ct) (cm := cm) (po := po) (yc := yc) (ye := ye) h80 G K
    have gX : ∀ post : Int32 → SX → Prop, ((e = 0 → wpX_carryOut (fun u => match u with | (xT2, tr2, ep2, ind2, vc2, pc2, xD2, xE2, cur2, tu2, ca2, c2, a2, nm2, nv2, ps2, pst2, psk2, jm2, cp2, stk2, em2, ce2, rp2, ct2, cm2) => ∀ x3 : Int32, x3 = nI s + 1 → wX_run_56 post (m + 1) e x3 xT2 tr2 ep2 ind2 vc2 pc2 xD2 xE2 cur2 tu2 ca2 c2 a2 nm2 nv2 ps2 pst2 psk2 jm2 cp2 stk2 em2 ce2 rp2 ct2 cm2) (nI T, 1, ep, ind, nI (sk_vs c T), pc, nI D, nI E, nI p, nI t, nI (l + 1), c, a, nm, nv, ps, pst, psk, jm, cp, stk, em, ce, rp, ct, cm)) ∧ (¬ e = 0 → ∀ x3 : Int32, x3 = nI s + 1 → wX_run_56 post (m + 1) e x3 (nI T) 1 ep ind (nI (sk_vs c T)) pc (nI D) (nI E) (nI p) (nI t) (nI (l + 1)) c a nm nv ps pst psk jm cp stk em ce rp ct cm)) →
        wX_run_56 post (m + 1 + 1) 0 (nI s) (nI T) 1 ep ind (nI (sk_vs c T)) pc (nI D) (nI E) (nI p) (nI t) (nI (l + 1)) c a nm nv ps pst psk jm cp stk em ce rp ct cm := by
      intro post h
      refine br_f (bX s (by omega)) (br_f cl1 (br_t rfl ?_))
      refine wX _ ?_
      exact h
    by_cases he : e = 0
    · have F := wF he
      subst he
      rcases F with ⟨D1, E1, p1, t1, l1, stk1, em1, ce1, rp1, ct1, cm1, po1, yc1, ye1, cX, cY, K1, M1⟩ | ⟨cur1, cX, cY⟩
      · obtain ⟨r, u', v', R, hX, hY⟩ := sr_loop h80 G m (s + 1) D1 E1 p1 t1 l1 stk1 em1 ce1 rp1 ct1 cm1 po1 yc1 ye1 K1 (by omega) (by omega)
        refine ⟨r, u', v', R, fun post h => gX post (br_t rfl ?_), fun post h => ?_⟩
        · refine cX _ ?_
          exact nm_r (nI_1 s) (hX post h)
        · refine br_f (bY s (by omega)) (br_f (nI_pos (by omega)) ⟨vp_in_nI (n := l) (by omega) (by decide), ?_⟩)
          rw [nI_clamp (n := l) (by omega), hpo]
          refine nm_e ?_
          refine wY _ ?_
          refine br_t rfl ?_
          refine cY _ ?_
          exact nm_r (nI_1 s) (hY post h)
      · have m1 : ∃ m', m = m' + 1 := by
          have : 1 ≤ sk_M po l t := by
            unfold sk_M
            rw [sk_sm, hpo, nI_clamp (n := p) (by omega)]
            omega
          exact ⟨m - 1, by omega⟩
        obtain ⟨m', rfl⟩ := m1
        refine ⟨0, _, _, ⟨T, D, E, 1, ep, ind, nI (sk_vs c T), pc, cur1, nI t, nI 0, nI 0 - 1, nI t, c, a, nm, nv, ps, pst, psk, jm, cp, stk, em, ce, rp, ct, cm, po, yc, ye, h80, K.1, K.2.1, rfl, rfl, Or.inr ⟨rfl, G⟩⟩, fun post h => gX post (br_t rfl ?_), fun post h => ?_⟩
        · refine cX _ ?_
          refine nm_r (nI_1 s) ?_
          exact br_f (bX (s + 1) (by omega)) (br_t (by decide) h)
        · refine br_f (bY s (by omega)) (br_f (nI_pos (by omega)) ⟨vp_in_nI (n := l) (by omega) (by decide), ?_⟩)
          rw [nI_clamp (n := l) (by omega), hpo]
          refine nm_e ?_
          refine wY _ ?_
          refine br_t rfl ?_
          refine cY _ ?_
          refine nm_r (nI_1 s) ?_
          exact br_f (bY (s + 1) (by omega)) (br_t (by decide) h)
    · refine ⟨e, _, _, ⟨T, D, E, 1, ep, ind, nI (sk_vs c T), pc, nI p, nI t, nI (l + 1), nI l, nI t, c, a, nm, nv, ps, pst, psk, jm, cp, stk, em, ce, rp, ct, cm, po, yc, ye, h80, K.1, K.2.1, rfl, rfl, Or.inr ⟨rfl, G⟩⟩, fun post h => gX post (br_f he ?_), fun post h => ?_⟩
      · refine nm_r (nI_1 s) ?_
        exact br_f (bX (s + 1) (by omega)) (br_f cl1 (br_f he h))
      · refine br_f (bY s (by omega)) (br_f (nI_pos (by omega)) ⟨vp_in_nI (n := l) (by omega) (by decide), ?_⟩)
        rw [nI_clamp (n := l) (by omega), hpo]
        refine nm_e ?_
        refine wY _ ?_
        exact br_f he h
theorem sr_run {D E : Nat} {v1 : Int32} (h80 : T ≤ 80) (hD : D ≤ 16) (hE : E ≤ 16) (G : sk_G T c a nm nv vc jm cp) : ∃ (r : Int32) (u' : SX) (v' : SY), sk_Rel u' v'
    ∧ (∀ post : Int32 → SX → Prop, post r u' → wpX_run post (nI T, 1, ep, ind, vc, pc, nI D, nI E, cur, tu, ca, c, a, nm, nv, ps, pst, psk, jm, cp, stk, em, ce, rp, ct, cm) v1)
    ∧ (∀ post : Int32 → SY → Prop, post r v' → wpY_run post (nI T, 1, ep, nI D, nI E, lv, yt, c, a, stk, em, ce, po, yc, ye) v1) := by
  have R0 : sk_Rel (nI T, 1, ep, ind, vc, pc, nI D, nI E, cur, tu, ca, c, a, nm, nv, ps, pst, psk, jm, cp, stk, em, ce, rp, ct, cm) (nI T, 1, ep, nI D, nI E, lv, yt, c, a, stk, em, ce, po, yc, ye) := ⟨T, D, E, 1, ep, ind, vc, pc, cur, tu, ca, lv, yt, c, a, nm, nv, ps, pst, psk, jm, cp, stk, em, ce, rp, ct, cm, po, yc, ye, h80, hD, hE, rfl, rfl, Or.inr ⟨rfl, G⟩⟩
  by_cases hn : sk_nm v1
  · obtain ⟨n, hn12, rfl⟩ := sk_nmI hn
    have Vn : ∀ {N : Nat}, N = 12 → vp_in (nI n) N := fun e => by rw [e]; exact vp_in_nI (n := n) (by omega) (by decide)
    rcases G.2.2.2.2.1 n hn12 with ⟨z1, z2⟩ | ⟨q, hq, z2, z3, z4⟩
    · refine ⟨-1, _, _, R0, fun post h => ?_, fun post h => ?_⟩
      · refine br_f (by decide) ?_
        refine sx_nmT hn ?_
        refine br_f (by decide) ⟨Vn rfl, ?_⟩
        rw [nI_clamp (n := n) (by omega), z1]
        exact br_f (by decide) h
      · refine br_f (by decide) ?_
        refine sy_nmT hn ?_
        refine br_f (by decide) ?_
        refine sy_dfN h80 z2 ?_
        exact br_t (by decide) h
    · rcases z4 with ⟨h26, m1, m2⟩ | ⟨h28, m1, m2⟩
      · have ev := G.2.2.1
        subst ev
        have i26 := sk_in26 h26
        have q1 := sk_lt G (p := q + 1) (by omega) i26
        have K : sk_K T c D 0 (q + 1) 0 0 rp ct cm (upd po 0 (nI (q + 1))) yc ye := by
          refine ⟨hD, by omega, by omega, by omega, ⟨q1, i26, pk_us, ?_⟩, fun j hj => by omega⟩
          intro x hx
          rw [sk_R26 h26] at hx
          cases hx
        have M : sk_M (upd po 0 (nI (q + 1))) 0 0 < 16100 := by
          unfold sk_M
          rw [sk_sm, sk_sm]
          omega
        obtain ⟨r, u', v', R, hX, hY⟩ := sr_loop (ep := ep) (ind := ind) (pc := pc) (c := c) (a := a) (nm := nm) (nv := nv) (ps := ps) (pst := pst) (psk := psk) (jm := jm) (cp := cp) h80 G 16100 0 D 0 (q + 1) 0 0 stk em ce rp ct cm (upd po 0 (nI (q + 1))) yc ye K M (by omega)
        refine ⟨r, u', v', R, fun post h => ?_, fun post h => ?_⟩
        · refine br_f (by decide) ?_
          refine sx_nmT hn ?_
          refine br_f (by decide) ⟨Vn rfl, ?_⟩
          rw [nI_clamp (n := n) (by omega), m2]
          exact br_t m1 ⟨Vn rfl, nm_e ⟨16101, hX post h⟩⟩
        · refine br_f (by decide) ?_
          refine sy_nmT hn ?_
          refine br_f (by decide) ?_
          refine sy_dfS h80 hq z2 z3 ?_
          refine br_f (nI_pos (by omega)) ⟨vp_in_nI (n := q) (by omega) (by decide), ?_⟩
          rw [nI_clamp (n := q) (by omega), nI_1]
          exact br_t h26 (nm_e ⟨16100, hY post h⟩)
      · refine ⟨-1, _, _, R0, fun post h => ?_, fun post h => ?_⟩
        · refine br_f (by decide) ?_
          refine sx_nmT hn ?_
          refine br_f (by decide) ⟨Vn rfl, ?_⟩
          rw [nI_clamp (n := n) (by omega), m1]
          exact br_f (by decide) h
        · refine br_f (by decide) ?_
          refine sy_nmT hn ?_
          refine br_f (by decide) ?_
          refine sy_dfS h80 hq z2 z3 ?_
          refine br_f (nI_pos (by omega)) ⟨vp_in_nI (n := q) (by omega) (by decide), ?_⟩
          rw [nI_clamp (n := q) (by omega), h28]
          exact br_f (by decide) h
  · refine ⟨-1, _, _, R0, fun post h => ?_, fun post h => ?_⟩
    · refine br_f (by decide) ?_
      refine sx_nmF hn ?_
      exact br_t rfl h
    · refine br_f (by decide) ?_
      refine sy_nmF hn ?_
      exact br_t rfl (br_t (by decide) h)
theorem sk_cvz (f : Nat → Int32) : ∀ n, n ≤ 12 → sk_cv (sk_z f 12) n = 0
  | 0, _ => rfl
  | n + 1, h => by rw [sk_cv, sk_z0 f 12 (by omega), if_neg (by decide)]; exact sk_cvz f n (by omega)
theorem sr_tr {D E : Nat} {ytr : Int32} (h80 : T ≤ 80) (hD : D ≤ 16) (hE : E ≤ 16) : ∃ (r : Int32) (u' : SX) (v' : SY), sk_Rel u' v'
    ∧ (∀ post : Int32 → SX → Prop, post r u' → wpX_translate post (nI T, tr, ep, ind, vc, pc, nI D, nI E, cur, tu, ca, c, a, nm, nv, ps, pst, psk, jm, cp, stk, em, ce, rp, ct, cm) )
    ∧ (∀ post : Int32 → SY → Prop, post r v' → wpY_translate post (nI T, ytr, ep, nI D, nI E, lv, yt, c, a, stk, em, ce, po, yc, ye)) := by
  have I : sk_I T 0 c a 0 0 0 (sk_z nm 12) nv ps pst psk jm cp := by
    refine ⟨rfl, nI_0.symm, nI_0.symm, Nat.zero_le _, fun q hq => by omega, trivial, ?_, (sk_cvz nm 12 (Nat.le_refl _)).symm, fun q hq => by omega, fun q hq => by omega⟩
    intro n hn
    exact Or.inl ⟨sk_z0 nm 12 hn, fun q hq => by omega⟩
  obtain ⟨r, u', v', R, hX, hY⟩ := st_loop (ep := ep) (lv := lv) (yt := yt) (c := c) (a := a) (stk := stk) (em := em) (ce := ce) (po := po) (yc := yc) (ye := ye) (cur := cur) (tu := tu) (ca := ca) (rp := rp) (ct := ct) (cm := cm) (ytr := ytr) h80 hD hE (T + 1) 0 0 0 0 (sk_z nm 12) nv ps pst psk jm cp (by omega) (by omega) I
  refine ⟨r, u', v', R, fun post h => ?_, fun post h => ⟨T + 1, ?_⟩⟩
  · unfold wpX_translate
    refine sx_start ?_
    refine ⟨T + 1 + 1, ?_⟩
    have := hX post h
    rw [nI_0] at this
    exact this
  · have := hY post h
    rw [nI_0] at this
    exact this
end
end
section
def i_Rel (_ : Nat) (u : SX) (v : SY) : Prop := sk_Rel u v
theorem i_up {k : Nat} {u : SX} {v : SY} (h : i_Rel k u v) : i_Rel (k + 3) u v := h
theorem i_vc0 : wpX_init (fun u => wpY_init (fun v => i_Rel 0 u v)) :=
  ⟨0, 0, 0, 0, 0, 0, 0, 0, 0, 0, 0, 0, 0, (fun _ => 0), (fun _ => 0), (fun _ => 0), (fun _ => 0), (fun _ => 0), (fun _ => 0), (fun _ => 0), (fun _ => 0), (fun _ => 0), (fun _ => 0), (fun _ => 0), (fun _ => 0), (fun _ => 0), (fun _ => 0), (fun _ => 0), (fun _ => 0), (fun _ => 0), (fun _ => 0), by omega, by omega, by omega, rfl, rfl, Or.inl rfl⟩
theorem i_vc_token {k : Nat} {u : SX} {v : SY} (I : i_Rel k u v) (hk : k + 3 ≤ 1536) (v1 : Int32) (v2 : Int32) : wpX_token (fun r u' => wpY_token (fun r' v' => r' = r ∧ i_Rel (k + 3) u' v') v v1 v2) u v1 v2 := by
  obtain ⟨T, D, E, tr, ep, ind, vc, pc, cur, tu, ca, lv, yt, c, a, nm, nv, ps, pst, psk, jm, cp, stk, em, ce, rp, ct, cm, po, yc, ye, h80, hD, hE, rfl, rfl, hG⟩ := I
  by_cases h : T = 80
  · subst h
    refine br_t rfl ?_
    exact br_t rfl ⟨rfl, ⟨80, D, E, tr, ep, ind, vc, pc, cur, tu, ca, lv, yt, c, a, nm, nv, ps, pst, psk, jm, cp, stk, em, ce, rp, ct, cm, po, yc, ye, h80, hD, hE, rfl, rfl, hG⟩⟩
  · have ne : ¬ nI T = 80 := fun y => h ((nI_eq (b := 80) (by omega) (by omega)).mp y)
    refine br_f ne ⟨vp_in_nI (n := T) (by omega) (by decide), ?_⟩
    rw [nI_clamp (n := T) (by omega)]
    refine nm_e ⟨vp_in_nI (n := T) (by omega) (by decide), nm_e (nm_r (nI_1 T) ?_)⟩
    refine br_f ne ⟨vp_in_nI (n := T) (by omega) (by decide), ?_⟩
    rw [nI_clamp (n := T) (by omega)]
    refine nm_e ⟨vp_in_nI (n := T) (by omega) (by decide), nm_e (nm_r (nI_1 T) ?_)⟩
    exact ⟨rfl, ⟨T + 1, D, E, 0, ep, ind, vc, pc, cur, tu, ca, lv, yt, upd c T v1, upd a T v2, nm, nv, ps, pst, psk, jm, cp, stk, em, ce, rp, ct, cm, po, yc, ye, by omega, hD, hE, rfl, rfl, Or.inl rfl⟩⟩
theorem i_vc_clear {k : Nat} {u : SX} {v : SY} (I : i_Rel k u v) (hk : k + 3 ≤ 1536) : wpX_clear (fun u' => wpY_clear (fun v' => i_Rel (k + 3) u' v') v) u := by
  obtain ⟨T, D, E, tr, ep, ind, vc, pc, cur, tu, ca, lv, yt, c, a, nm, nv, ps, pst, psk, jm, cp, stk, em, ce, rp, ct, cm, po, yc, ye, h80, hD, hE, rfl, rfl, hG⟩ := I
  exact ⟨0, D, E, 0, ep, ind, vc, pc, cur, tu, ca, lv, yt, c, a, nm, nv, ps, pst, psk, jm, cp, stk, em, ce, rp, ct, cm, po, yc, ye, by omega, hD, hE, rfl, rfl, Or.inl rfl⟩
theorem i_vc_translate {k : Nat} {u : SX} {v : SY} (I : i_Rel k u v) (hk : k + 3 ≤ 1536) : wpX_translate (fun r u' => wpY_translate (fun r' v' => r' = r ∧ i_Rel (k + 3) u' v') v) u := by
  obtain ⟨T, D, E, tr, ep, ind, vc, pc, cur, tu, ca, lv, yt, c, a, nm, nv, ps, pst, psk, jm, cp, stk, em, ce, rp, ct, cm, po, yc, ye, h80, hD, hE, rfl, rfl, hG⟩ := I
  obtain ⟨r, u1, v1, R, hX, hY⟩ := sr_tr (tr := tr) (ep := ep) (ind := ind) (vc := vc) (pc := pc) (cur := cur) (tu := tu) (ca := ca) (lv := lv) (yt := yt) (c := c) (a := a) (nm := nm) (nv := nv) (ps := ps) (pst := pst) (psk := psk) (jm := jm) (cp := cp) (stk := stk) (em := em) (ce := ce) (rp := rp) (ct := ct) (cm := cm) (po := po) (yc := yc) (ye := ye) (ytr := tr) h80 hD hE
  refine hX _ ?_
  refine hY _ ?_
  exact ⟨rfl, R⟩
theorem i_vc_errorAt {k : Nat} {u : SX} {v : SY} (I : i_Rel k u v) (hk : k + 3 ≤ 1536) : wpX_errorAt (fun r => wpY_errorAt (fun r' => r' = r ∧ i_Rel (k + 3) u v) v) u := by
  obtain ⟨T, D, E, tr, ep, ind, vc, pc, cur, tu, ca, lv, yt, c, a, nm, nv, ps, pst, psk, jm, cp, stk, em, ce, rp, ct, cm, po, yc, ye, h80, hD, hE, rfl, rfl, hG⟩ := I
  exact ⟨rfl, ⟨T, D, E, tr, ep, ind, vc, pc, cur, tu, ca, lv, yt, c, a, nm, nv, ps, pst, psk, jm, cp, stk, em, ce, rp, ct, cm, po, yc, ye, h80, hD, hE, rfl, rfl, hG⟩⟩
theorem i_vc_push {k : Nat} {u : SX} {v : SY} (I : i_Rel k u v) (hk : k + 3 ≤ 1536) (v1 : Int32) : wpX_push (fun r u' => wpY_push (fun r' v' => r' = r ∧ i_Rel (k + 3) u' v') v v1) u v1 := by
  obtain ⟨T, D, E, tr, ep, ind, vc, pc, cur, tu, ca, lv, yt, c, a, nm, nv, ps, pst, psk, jm, cp, stk, em, ce, rp, ct, cm, po, yc, ye, h80, hD, hE, rfl, rfl, hG⟩ := I
  by_cases h : D = 16
  · subst h
    refine br_t rfl ?_
    exact br_t rfl ⟨rfl, ⟨T, 16, E, tr, ep, ind, vc, pc, cur, tu, ca, lv, yt, c, a, nm, nv, ps, pst, psk, jm, cp, stk, em, ce, rp, ct, cm, po, yc, ye, h80, hD, hE, rfl, rfl, hG⟩⟩
  · have ne : ¬ nI D = 16 := fun y => h ((nI_eq (b := 16) (by omega) (by omega)).mp y)
    refine br_f ne ?_
    refine sx_put (by omega) ?_
    refine sy_push (by omega) ?_
    exact ⟨rfl, ⟨T, D + 1, E, tr, ep, ind, vc, pc, cur, tu, ca, lv, yt, c, a, nm, nv, ps, pst, psk, jm, cp, upd stk D v1, em, ce, rp, ct, cm, po, yc, ye, h80, by omega, hE, rfl, rfl, hG⟩⟩
theorem i_vc_run {k : Nat} {u : SX} {v : SY} (I : i_Rel k u v) (hk : k + 3 ≤ 1536) (v1 : Int32) : wpX_run (fun r u' => wpY_run (fun r' v' => r' = r ∧ i_Rel (k + 3) u' v') v v1) u v1 := by
  obtain ⟨T, D, E, tr, ep, ind, vc, pc, cur, tu, ca, lv, yt, c, a, nm, nv, ps, pst, psk, jm, cp, stk, em, ce, rp, ct, cm, po, yc, ye, h80, hD, hE, rfl, rfl, hG⟩ := I
  rcases hG with h0 | ⟨h1, G⟩
  · subst h0
    refine br_t rfl ?_
    exact br_t rfl (br_t (by decide) ⟨rfl, ⟨T, D, E, 0, ep, ind, vc, pc, cur, tu, ca, lv, yt, c, a, nm, nv, ps, pst, psk, jm, cp, stk, em, ce, rp, ct, cm, po, yc, ye, h80, hD, hE, rfl, rfl, Or.inl rfl⟩⟩)
  · subst h1
    obtain ⟨r, u1, v1, R, hX, hY⟩ := sr_run (v1 := v1) (ep := ep) (ind := ind) (vc := vc) (pc := pc) (cur := cur) (tu := tu) (ca := ca) (lv := lv) (yt := yt) (c := c) (a := a) (nm := nm) (nv := nv) (ps := ps) (pst := pst) (psk := psk) (jm := jm) (cp := cp) (stk := stk) (em := em) (ce := ce) (rp := rp) (ct := ct) (cm := cm) (po := po) (yc := yc) (ye := ye) h80 hD hE G
    refine hX _ ?_
    refine hY _ ?_
    exact ⟨rfl, R⟩
theorem i_vc_depth {k : Nat} {u : SX} {v : SY} (I : i_Rel k u v) (hk : k + 3 ≤ 1536) : wpX_depth (fun r => wpY_depth (fun r' => r' = r ∧ i_Rel (k + 3) u v) v) u := by
  obtain ⟨T, D, E, tr, ep, ind, vc, pc, cur, tu, ca, lv, yt, c, a, nm, nv, ps, pst, psk, jm, cp, stk, em, ce, rp, ct, cm, po, yc, ye, h80, hD, hE, rfl, rfl, hG⟩ := I
  exact ⟨rfl, ⟨T, D, E, tr, ep, ind, vc, pc, cur, tu, ca, lv, yt, c, a, nm, nv, ps, pst, psk, jm, cp, stk, em, ce, rp, ct, cm, po, yc, ye, h80, hD, hE, rfl, rfl, hG⟩⟩
theorem i_vc_top {k : Nat} {u : SX} {v : SY} (I : i_Rel k u v) (hk : k + 3 ≤ 1536) (v1 : Int32) : wpX_top (fun r => wpY_top (fun r' => r' = r ∧ i_Rel (k + 3) u v) v v1) u v1 := by
  obtain ⟨T, D, E, tr, ep, ind, vc, pc, cur, tu, ca, lv, yt, c, a, nm, nv, ps, pst, psk, jm, cp, stk, em, ce, rp, ct, cm, po, yc, ye, h80, hD, hE, rfl, rfl, hG⟩ := I
  have R : sk_Rel _ _ := ⟨T, D, E, tr, ep, ind, vc, pc, cur, tu, ca, lv, yt, c, a, nm, nv, ps, pst, psk, jm, cp, stk, em, ce, rp, ct, cm, po, yc, ye, h80, hD, hE, rfl, rfl, hG⟩
  by_cases h0 : v1 < 0
  · exact br_t h0 (br_t h0 ⟨rfl, R⟩)
  · by_cases h1 : v1 < nI D
    · obtain ⟨j, hj, rfl⟩ := nI_of h0
      rw [nI_ltI hj (by omega)] at h1
      have e : nI D - 1 - nI j = nI (D - 1 - j) := by
        obtain ⟨d, rfl⟩ : ∃ d, D = d + 1 := ⟨D - 1, by omega⟩
        rw [nI_pred, pk_sub (by omega)]
        rfl
      refine br_f h0 (br_t (nI_lt h1 (by omega)) ?_)
      rw [e, nI_clamp (n := D - 1 - j) (by omega)]
      refine ⟨vp_in_nI (by omega) (by decide), ?_⟩
      refine br_f h0 (br_t (nI_lt h1 (by omega)) ?_)
      rw [e, nI_clamp (n := D - 1 - j) (by omega)]
      exact ⟨vp_in_nI (by omega) (by decide), rfl, R⟩
    · exact br_f h0 (br_f h1 (br_f h0 (br_f h1 ⟨rfl, R⟩)))
theorem i_vc_outputs {k : Nat} {u : SX} {v : SY} (I : i_Rel k u v) (hk : k + 3 ≤ 1536) : wpX_outputs (fun r => wpY_outputs (fun r' => r' = r ∧ i_Rel (k + 3) u v) v) u := by
  obtain ⟨T, D, E, tr, ep, ind, vc, pc, cur, tu, ca, lv, yt, c, a, nm, nv, ps, pst, psk, jm, cp, stk, em, ce, rp, ct, cm, po, yc, ye, h80, hD, hE, rfl, rfl, hG⟩ := I
  exact ⟨rfl, ⟨T, D, E, tr, ep, ind, vc, pc, cur, tu, ca, lv, yt, c, a, nm, nv, ps, pst, psk, jm, cp, stk, em, ce, rp, ct, cm, po, yc, ye, h80, hD, hE, rfl, rfl, hG⟩⟩
theorem i_vc_output {k : Nat} {u : SX} {v : SY} (I : i_Rel k u v) (hk : k + 3 ≤ 1536) (v1 : Int32) : wpX_output (fun r => wpY_output (fun r' => r' = r ∧ i_Rel (k + 3) u v) v v1) u v1 := by
  obtain ⟨T, D, E, tr, ep, ind, vc, pc, cur, tu, ca, lv, yt, c, a, nm, nv, ps, pst, psk, jm, cp, stk, em, ce, rp, ct, cm, po, yc, ye, h80, hD, hE, rfl, rfl, hG⟩ := I
  have R : sk_Rel _ _ := ⟨T, D, E, tr, ep, ind, vc, pc, cur, tu, ca, lv, yt, c, a, nm, nv, ps, pst, psk, jm, cp, stk, em, ce, rp, ct, cm, po, yc, ye, h80, hD, hE, rfl, rfl, hG⟩
  by_cases h0 : v1 < 0
  · exact br_t h0 (br_t h0 ⟨rfl, R⟩)
  · by_cases h1 : v1 < nI E
    · obtain ⟨j, hj, rfl⟩ := nI_of h0
      have h2 := h1
      rw [nI_ltI hj (by omega)] at h2
      have V : vp_in (nI j) 16 := vp_in_nI (by omega) (by decide)
      exact br_f h0 (br_t h1 ⟨V, br_f h0 (br_t h1 ⟨V, rfl, R⟩)⟩)
    · exact br_f h0 (br_f h1 (br_f h0 (br_f h1 ⟨rfl, R⟩)))
theorem i_vc_variable {k : Nat} {u : SX} {v : SY} (I : i_Rel k u v) (hk : k + 3 ≤ 1536) (v1 : Int32) : wpX_variable (fun r => wpY_variable (fun r' => r' = r ∧ i_Rel (k + 3) u v) v v1) u v1 := by
  obtain ⟨T, D, E, tr, ep, ind, vc, pc, cur, tu, ca, lv, yt, c, a, nm, nv, ps, pst, psk, jm, cp, stk, em, ce, rp, ct, cm, po, yc, ye, h80, hD, hE, rfl, rfl, hG⟩ := I
  have R : sk_Rel _ _ := ⟨T, D, E, tr, ep, ind, vc, pc, cur, tu, ca, lv, yt, c, a, nm, nv, ps, pst, psk, jm, cp, stk, em, ce, rp, ct, cm, po, yc, ye, h80, hD, hE, rfl, rfl, hG⟩
  rcases hG with z | ⟨z, G⟩
  · exact br_t z (br_t z ⟨rfl, R⟩)
  · have nz : ¬ tr = 0 := by rw [z]; decide
    have ev := G.2.2.1
    have hV := G.2.2.2.1
    subst ev
    refine br_f nz ?_
    by_cases h0 : v1 < 0
    · exact br_t h0 (br_t rfl (br_f nz (br_t h0 ⟨rfl, R⟩)))
    · by_cases h1 : nI (sk_vs c T) ≤ v1
      · refine br_f h0 (br_t h1 (br_t rfl (br_f nz (br_f h0 ?_))))
        refine sy_vars h80 ?_
        exact br_f (Int32.not_lt.mpr h1) ⟨rfl, R⟩
      · obtain ⟨j, hj, rfl⟩ := nI_of h0
        have h2 := h1
        rw [nI_leI (by omega) hj] at h2
        have V : vp_in (nI j) 12 := vp_in_nI (by omega) (by decide)
        refine br_f h0 (br_f h1 (br_f (by decide) ⟨V, br_f nz (br_f h0 ?_)⟩))
        refine sy_vars h80 ?_
        exact br_t (Int32.not_le.mp h1) ⟨V, rfl, R⟩
end
