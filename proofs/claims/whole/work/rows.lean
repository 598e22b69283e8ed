section
/-! rows pasted from kit/rows -/
theorem pk_us {f : Nat → Int32} {k : Nat} {x : Int32} : upd f k x k = x := if_pos rfl
theorem pk_un {f : Nat → Int32} {k j : Nat} {x : Int32} (h : j ≠ k) : upd f k x j = f j := if_neg h
theorem pk_sub {a b : Nat} (h : b ≤ a) : nI a - nI b = nI (a - b) := by
  obtain ⟨c, rfl⟩ : ∃ c, a = c + b := ⟨a - b, by omega⟩
  rw [← nI_add, Int32.add_sub_cancel, Nat.add_sub_cancel]
theorem pk_m1 (n : Nat) : nI (n + 1) + (-1) = nI n := by
  rw [← nI_1, Int32.add_assoc, show (1 : Int32) + (-1) = 0 from rfl, Int32.add_zero]
theorem pk_mul (a b : Nat) : nI a * nI b = nI (a * b) := (Int32.ofNat_mul a b).symm
theorem pk_sub_toInt {a b : Nat} (ha : a < 2 ^ 30) (hb : b < 2 ^ 30) : (nI a - nI b).toInt = (a : Int) - b := by
  rw [Int32.toInt_sub, nI_toInt (by omega), nI_toInt (by omega)]
  exact Int.bmod_eq_of_le (by omega) (by omega)
theorem pk_sneg {a b : Nat} (hb : b < 2 ^ 30) (h : a < b) : nI a - nI b < 0 := by
  rw [Int32.lt_iff_toInt_lt, pk_sub_toInt (by omega) hb, show (0 : Int32).toInt = 0 from by decide]
  omega
theorem pk_ix (x : Int32) {n : Nat} (hn : n < 2 ^ 31) : x < 0 ∨ nI n ≤ x ∨ ∃ j : Nat, j < n ∧ x = nI j := by
  by_cases h : x < 0
  · exact Or.inl h
  · obtain ⟨j, hj, rfl⟩ := nI_of h
    by_cases h2 : j < n
    · exact Or.inr (Or.inr ⟨j, h2, rfl⟩)
    · exact Or.inr (Or.inl (nI_le (by omega) hj))
theorem pk_le {x y : Int32} {A B : Prop} (a b : Nat) (f : a ≤ b → A) (g : b < a → B) (hx : x = nI a := by rfl) (hy : y = nI b := by rfl) (ha : a < 2 ^ 31 := by omega) (hb : b < 2 ^ 31 := by omega) : (x ≤ y → A) ∧ (¬ x ≤ y → B) := by
  subst hx hy
  rw [nI_leI ha hb]
  exact ⟨f, fun z => g (by omega)⟩
theorem pk_lt {x y : Int32} {A B : Prop} (a b : Nat) (f : a < b → A) (g : b ≤ a → B) (hx : x = nI a := by rfl) (hy : y = nI b := by rfl) (ha : a < 2 ^ 31 := by omega) (hb : b < 2 ^ 31 := by omega) : (x < y → A) ∧ (¬ x < y → B) := by
  subst hx hy
  rw [nI_ltI ha hb]
  exact ⟨f, fun z => g (by omega)⟩
theorem pk_eq {x y : Int32} {A B : Prop} (a b : Nat) (f : a = b → A) (g : a ≠ b → B) (hx : x = nI a := by rfl) (hy : y = nI b := by rfl) (ha : a < 2 ^ 31 := by omega) (hb : b < 2 ^ 31 := by omega) : (x = y → A) ∧ (¬ x = y → B) := by
  subst hx hy
  rw [nI_eq ha hb]
  exact ⟨f, g⟩
theorem pk_in {x : Int32} (n N : Nat) (h : n < N) (hx : x = nI n := by rfl) (hN : N < 2 ^ 31 := by omega) : vp_in x N := by
  subst hx
  exact vp_in_nI h hN
theorem pk_cl {x : Int32} (n : Nat) (hx : x = nI n := by rfl) (h : n < 2 ^ 31 := by omega) : x.toNatClampNeg = n := by
  subst hx
  exact nI_clamp h
end
section
/-! the row of parts under way, whether a place is inside, where a part ends: all of the codes alone -/
abbrev sk_op (x : Int32) : Prop := x = 16 ∨ x = 19 ∨ x = 23
abbrev sk_cl (x : Int32) : Prop := x = 18 ∨ x = 20 ∨ x = 22 ∨ x = 24
def sk_chg (p : Nat) : List (Nat × Nat) → List (Nat × Nat)
  | [] => []
  | (q, _) :: t => (q, p) :: t
def sk_R (c : Nat → Int32) : Nat → List (Nat × Nat)
  | 0 => []
  | p + 1 => if sk_op (c p) then (p, p) :: sk_R c p else if sk_cl (c p) then (sk_R c p).tail else if c p = 17 ∨ c p = 21 then sk_chg p (sk_R c p) else if c p = 26 then [] else sk_R c p
def sk_in (c : Nat → Int32) : Nat → Int32
  | 0 => 0
  | p + 1 => if c p = 26 then 1 else if c p = 27 then 0 else sk_in c p
def sk_hs (c : Nat → Int32) : List (Nat × Nat) → Int32
  | [] => -1
  | (_, k) :: _ => c k
def sk_tm (c : Nat → Int32) : List (Nat × Nat) → List (Nat × Nat)
  | [] => []
  | (q, k) :: t => if c k = 23 then (q, k) :: t else sk_tm c t
def sk_bh (c : Nat → Int32) (e : Bool) : Nat → Nat → Nat → Nat
  | 0, q, _ => q - 1
  | f + 1, q, k => if k = 0 ∧ (sk_cl (c q) ∨ (e = true ∧ c q = 17)) then q else sk_bh c e f (q + 1) (if sk_op (c q) then k + 1 else if sk_cl (c q) then k - 1 else k)
def sk_vs (c : Nat → Int32) : Nat → Nat
  | 0 => 0
  | p + 1 => if c p = 28 then sk_vs c p + 1 else sk_vs c p
abbrev sk_nm (x : Int32) : Prop := ¬ x < 0 ∧ ¬ 11 < x
abbrev sk_df (c a : Nat → Int32) (q : Nat) (x : Int32) : Prop := (c q = 26 ∨ c q = 28) ∧ a q = x
/-- token p inside a definition makes no error -/
def sk_Ok (c a : Nat → Int32) (p : Nat) : Prop :=
  (¬ c p < 0 ∧ ¬ 27 < c p ∧ c p ≠ 26) ∧ (c p = 15 → sk_nm (a p)) ∧ (sk_op (c p) → (sk_R c p).length < 6)
  ∧ (c p = 17 → sk_hs c (sk_R c p) = 16) ∧ (c p = 18 → sk_hs c (sk_R c p) = 16 ∨ sk_hs c (sk_R c p) = 17)
  ∧ (c p = 20 → sk_hs c (sk_R c p) = 19) ∧ (c p = 21 → sk_hs c (sk_R c p) = 19) ∧ (c p = 22 → sk_hs c (sk_R c p) = 21)
  ∧ (c p = 24 → sk_hs c (sk_R c p) = 23) ∧ (c p = 25 → sk_tm c (sk_R c p) ≠ []) ∧ (c p = 27 → sk_R c p = [])
/-- .. and one outside -/
def sk_Oo (c a : Nat → Int32) (p : Nat) : Prop := (c p = 26 ∨ c p = 28) ∧ sk_nm (a p) ∧ ∀ q, q < p → ¬ sk_df c a q (a p)
def sk_Tk (c a : Nat → Int32) (p : Nat) : Prop := (sk_in c p = 0 → sk_Oo c a p) ∧ (sk_in c p = 1 → sk_Ok c a p)

theorem sk_in01 (c : Nat → Int32) : ∀ p, sk_in c p = 0 ∨ sk_in c p = 1
  | 0 => Or.inl rfl
  | p + 1 => by
    unfold sk_in
    by_cases h : c p = 26
    · rw [if_pos h]; exact Or.inr rfl
    · rw [if_neg h]
      by_cases h' : c p = 27
      · rw [if_pos h']; exact Or.inl rfl
      · rw [if_neg h']; exact sk_in01 c p
theorem sk_inS {c : Nat → Int32} {p : Nat} (h : c p ≠ 26) (h' : c p ≠ 27) : sk_in c (p + 1) = sk_in c p := by
  show (if c p = 26 then (1 : Int32) else if c p = 27 then 0 else sk_in c p) = _
  rw [if_neg h, if_neg h']
theorem sk_in26 {c : Nat → Int32} {p : Nat} (h : c p = 26) : sk_in c (p + 1) = 1 := by
  show (if c p = 26 then (1 : Int32) else if c p = 27 then 0 else sk_in c p) = _
  rw [if_pos h]
theorem sk_in27 {c : Nat → Int32} {p : Nat} (h : c p = 27) : sk_in c (p + 1) = 0 := by
  show (if c p = 26 then (1 : Int32) else if c p = 27 then 0 else sk_in c p) = _
  rw [if_neg (by rw [h]; decide), if_pos h]
theorem sk_Rop {c : Nat → Int32} {p : Nat} (h : sk_op (c p)) : sk_R c (p + 1) = (p, p) :: sk_R c p := by
  rw [sk_R, if_pos h]
theorem sk_opcl {x : Int32} (h : sk_cl x) : ¬ sk_op x := by
  rcases h with h | h | h | h <;> rw [h] <;> decide
theorem sk_Rcl {c : Nat → Int32} {p : Nat} (h : sk_cl (c p)) : sk_R c (p + 1) = (sk_R c p).tail := by
  rw [sk_R, if_neg (sk_opcl h), if_pos h]
theorem sk_Rch {c : Nat → Int32} {p : Nat} (h : c p = 17 ∨ c p = 21) : sk_R c (p + 1) = sk_chg p (sk_R c p) := by
  rw [sk_R, if_neg (by rcases h with h | h <;> rw [h] <;> decide), if_neg (by rcases h with h | h <;> rw [h] <;> decide), if_pos h]
theorem sk_R26 {c : Nat → Int32} {p : Nat} (h : c p = 26) : sk_R c (p + 1) = [] := by
  rw [sk_R, if_neg (by rw [h]; decide), if_neg (by rw [h]; decide), if_neg (by rw [h]; decide), if_pos h]
theorem sk_Rpl {c : Nat → Int32} {p : Nat} (h1 : ¬ sk_op (c p)) (h2 : ¬ sk_cl (c p)) (h3 : ¬ (c p = 17 ∨ c p = 21)) (h4 : c p ≠ 26) : sk_R c (p + 1) = sk_R c p := by
  rw [sk_R, if_neg h1, if_neg h2, if_neg h3, if_neg h4]
/-- what stands of a row of parts under way -/
def sk_HI (c : Nat → Int32) (p : Nat) : List (Nat × Nat) → Prop
  | [] => True
  | (q, k) :: t => sk_R c q = t ∧ q < p ∧ q ≤ k ∧ k < p ∧ sk_in c (q + 1) = 1 ∧ sk_op (c q) ∧ (k = q ∨ ∃ k', sk_R c k = (q, k') :: t) ∧ (c k = 23 ↔ c q = 23) ∧ sk_HI c p t
theorem sk_HIm {c : Nat → Int32} {p : Nat} : ∀ {L : List (Nat × Nat)}, sk_HI c p L → sk_HI c (p + 1) L
  | [], _ => trivial
  | (_, _) :: _, ⟨h1, h2, h3, h4, h5, h6, h7, h8, h9⟩ => ⟨h1, by omega, h3, by omega, h5, h6, h7, h8, sk_HIm h9⟩
theorem sk_HItl {c : Nat → Int32} {p : Nat} : ∀ {L : List (Nat × Nat)}, sk_HI c p L → sk_HI c p L.tail
  | [], h => h
  | (_, _) :: _, ⟨_, _, _, _, _, _, _, _, h9⟩ => h9
/-- one step of the row -/
theorem sk_HIs {c a : Nat → Int32} {p : Nat} (H : sk_HI c p (sk_R c p)) (K : sk_Tk c a p) (E : sk_in c p = 0 → sk_R c p = []) : sk_HI c (p + 1) (sk_R c (p + 1)) ∧ (sk_in c (p + 1) = 0 → sk_R c (p + 1) = []) := by
  rcases sk_in01 c p with z | z
  · have O := K.1 z
    have E' := E z
    rcases O.1 with h | h
    · rw [sk_R26 h]; exact ⟨trivial, fun _ => rfl⟩
    · have e : sk_R c (p + 1) = sk_R c p := sk_Rpl (by rw [h]; decide) (by rw [h]; decide) (by rw [h]; decide) (by rw [h]; decide)
      rw [e, E']; exact ⟨trivial, fun _ => rfl⟩
  · have O := K.2 z
    obtain ⟨⟨_, _, o26⟩, _, oop, o17, o18, o20, o21, o22, o24, o25, o27⟩ := O
    by_cases h : sk_op (c p)
    · rw [sk_Rop h]
      have i1 : sk_in c (p + 1) = 1 := by
        rw [sk_inS o26 (by rcases h with h | h | h <;> rw [h] <;> decide)]; exact z
      refine ⟨⟨rfl, by omega, Nat.le_refl _, by omega, i1, h, Or.inl rfl, Iff.rfl, sk_HIm H⟩, fun y => absurd (y.symm.trans i1) (by decide)⟩
    · by_cases h2 : sk_cl (c p)
      · rw [sk_Rcl h2]
        have i1 : sk_in c (p + 1) = 1 := by
          rw [sk_inS o26 (by rcases h2 with h | h | h | h <;> rw [h] <;> decide)]; exact z
        exact ⟨sk_HItl (sk_HIm H), fun y => absurd (y.symm.trans i1) (by decide)⟩
      · by_cases h3 : c p = 17 ∨ c p = 21
        · rw [sk_Rch h3]
          have i1 : sk_in c (p + 1) = 1 := by
            rw [sk_inS o26 (by rcases h3 with h | h <;> rw [h] <;> decide)]; exact z
          refine ⟨?_, fun y => absurd (y.symm.trans i1) (by decide)⟩
          have hs : sk_hs c (sk_R c p) = 16 ∨ sk_hs c (sk_R c p) = 19 := by
            rcases h3 with h | h
            · exact Or.inl (o17 h)
            · exact Or.inr (o21 h)
          revert hs
          generalize hL : sk_R c p = L at H
          cases L with
          | nil => intro hs; exact trivial
          | cons x t =>
            obtain ⟨q, k⟩ := x
            intro hs
            obtain ⟨h1, h2', h3', h4, h5, h6, h7, h8, h9⟩ := H
            refine ⟨h1, by omega, by omega, by omega, h5, h6, Or.inr ⟨k, hL⟩, ?_, sk_HIm h9⟩
            have n1 : ¬ c p = 23 := by rcases h3 with h | h <;> rw [h] <;> decide
            have n2 : ¬ c q = 23 := by
              rw [← h8]
              rcases hs with h | h
              · have : c k = 16 := h
                rw [this]; decide
              · have : c k = 19 := h
                rw [this]; decide
            exact ⟨fun y => absurd y n1, fun y => absurd y n2⟩
        · have e : sk_R c (p + 1) = sk_R c p := sk_Rpl h h2 h3 o26
          rw [e]
          refine ⟨sk_HIm H, fun y => ?_⟩
          by_cases h4 : c p = 27
          · exact o27 h4
          · rw [sk_inS o26 h4, z] at y
            exact absurd y (by decide)
theorem sk_HIa {c a : Nat → Int32} : ∀ {p : Nat}, (∀ q, q < p → sk_Tk c a q) → sk_HI c p (sk_R c p) ∧ (sk_in c p = 0 → sk_R c p = [])
  | 0, _ => ⟨trivial, fun _ => rfl⟩
  | p + 1, h => by
    have ih := sk_HIa (p := p) (fun q hq => h q (by omega))
    exact sk_HIs ih.1 (h p (by omega)) ih.2
/-- the forward scans that are under way -/
def sk_SK (c : Nat → Int32) (T p : Nat) : Nat → List (Nat × Nat) → Prop
  | _, [] => True
  | i, (_, k) :: t => (c k ≠ 19 → sk_bh c (decide (c k = 16)) (T - (k + 1)) (k + 1) 0 = sk_bh c (decide (c k = 16)) (T - p) p i) ∧ sk_SK c T p (i + 1) t
theorem sk_bhT {c : Nat → Int32} {e : Bool} {T q k : Nat} (h : q < T) (hm : k = 0 ∧ (sk_cl (c q) ∨ (e = true ∧ c q = 17))) : sk_bh c e (T - q) q k = q := by
  obtain ⟨f, hf⟩ : ∃ f, T - q = f + 1 := ⟨T - q - 1, by omega⟩
  rw [hf, sk_bh, if_pos hm]
theorem sk_bhF {c : Nat → Int32} {e : Bool} {T q k : Nat} (h : q < T) (hm : ¬ (k = 0 ∧ (sk_cl (c q) ∨ (e = true ∧ c q = 17)))) : sk_bh c e (T - q) q k = sk_bh c e (T - (q + 1)) (q + 1) (if sk_op (c q) then k + 1 else if sk_cl (c q) then k - 1 else k) := by
  obtain ⟨f, hf⟩ : ∃ f, T - q = f + 1 := ⟨T - q - 1, by omega⟩
  have : T - (q + 1) = f := by omega
  rw [hf, sk_bh, if_neg hm, this]
theorem sk_SKop {c : Nat → Int32} {T p : Nat} (hp : p < T) (h : sk_op (c p)) : ∀ {L : List (Nat × Nat)} {i : Nat}, sk_SK c T p i L → sk_SK c T (p + 1) (i + 1) L
  | [], _, _ => trivial
  | (_, k) :: t, i, ⟨h1, h2⟩ => ⟨fun z => by
      rw [h1 z, sk_bhF hp (by
        intro y
        rcases y.2 with y | y
        · exact sk_opcl y h
        · rcases h with h | h | h <;> rw [h] at y <;> exact absurd y.2 (by decide)), if_pos h], sk_SKop hp h h2⟩
theorem sk_SKcl {c : Nat → Int32} {T p : Nat} (hp : p < T) (h : sk_cl (c p)) : ∀ {L : List (Nat × Nat)} {i : Nat}, sk_SK c T p (i + 1) L → sk_SK c T (p + 1) i L
  | [], _, _ => trivial
  | (_, k) :: t, i, ⟨h1, h2⟩ => ⟨fun z => by
      rw [h1 z, sk_bhF hp (by intro y; omega), if_neg (sk_opcl h), if_pos h, Nat.add_sub_cancel], sk_SKcl hp h h2⟩
theorem sk_SKpl {c : Nat → Int32} {T p : Nat} (hp : p < T) (h : ¬ sk_op (c p)) (h' : ¬ sk_cl (c p)) : ∀ {L : List (Nat × Nat)} {i : Nat}, (i = 0 → c p ≠ 17) → sk_SK c T p i L → sk_SK c T (p + 1) i L
  | [], _, _, _ => trivial
  | (_, k) :: t, i, z0, ⟨h1, h2⟩ => ⟨fun z => by
      rw [h1 z, sk_bhF hp (by
        intro y
        rcases y.2 with y' | y'
        · exact h' y'
        · exact z0 y.1 y'.2), if_neg h, if_neg h'], sk_SKpl hp h h' (fun y => by omega) h2⟩
theorem sk_SKs {c a : Nat → Int32} {T p : Nat} (hp : p < T) (H : sk_SK c T p 0 (sk_R c p)) (K : sk_Tk c a p) (E : sk_in c p = 0 → sk_R c p = []) : sk_SK c T (p + 1) 0 (sk_R c (p + 1)) := by
  by_cases h : sk_op (c p)
  · rw [sk_Rop h]
    exact ⟨fun _ => rfl, sk_SKop hp h H⟩
  · by_cases h2 : sk_cl (c p)
    · rw [sk_Rcl h2]
      revert H
      cases sk_R c p with
      | nil => exact fun _ => trivial
      | cons x t => exact fun H => sk_SKcl hp h2 H.2
    · by_cases h3 : c p = 17 ∨ c p = 21
      · rw [sk_Rch h3]
        revert H
        cases sk_R c p with
        | nil => exact fun _ => trivial
        | cons x t => exact fun H => ⟨fun _ => rfl, sk_SKpl hp h h2 (fun y => by omega) H.2⟩
      · by_cases h4 : c p = 26
        · rw [sk_R26 h4]; exact trivial
        · rw [sk_Rpl h h2 h3 h4]
          exact sk_SKpl hp h h2 (fun _ y => h3 (Or.inl y)) H
theorem sk_SKa {c a : Nat → Int32} {T : Nat} : ∀ {p : Nat}, p ≤ T → (∀ q, q < p → sk_Tk c a q) → sk_SK c T p 0 (sk_R c p)
  | 0, _, _ => trivial
  | p + 1, hp, h => sk_SKs (by omega) (sk_SKa (p := p) (by omega) (fun q hq => h q (by omega))) (h p (by omega)) (sk_HIa (p := p) (fun q hq => h q (by omega))).2
end
section
section
variable {yT tr ep yD yE lv yt : Int32} {c a stk em ce po yc ye : Nat → Int32}
theorem sy_opT {post : Int32 → Prop} {x : Int32} (h : sk_op x) (hp : post 1) : wpY_opens post x := by
  rcases h with h | h | h
  · exact br_t h hp
  · exact br_f (by rw [h]; decide) (br_t h hp)
  · exact br_f (by rw [h]; decide) (br_f (by rw [h]; decide) (br_t h hp))
theorem sy_opF {post : Int32 → Prop} {x : Int32} (h : ¬ sk_op x) (hp : post 0) : wpY_opens post x :=
  br_f (fun z => h (Or.inl z)) (br_f (fun z => h (Or.inr (Or.inl z))) (br_f (fun z => h (Or.inr (Or.inr z))) hp))
theorem sy_clT {post : Int32 → Prop} {x : Int32} (h : sk_cl x) (hp : post 1) : wpY_closes post x := by
  rcases h with h | h | h | h
  · exact br_t h hp
  · exact br_f (by rw [h]; decide) (br_t h hp)
  · exact br_f (by rw [h]; decide) (br_f (by rw [h]; decide) (br_t h hp))
  · exact br_f (by rw [h]; decide) (br_f (by rw [h]; decide) (br_f (by rw [h]; decide) (br_t h hp)))
theorem sy_clF {post : Int32 → Prop} {x : Int32} (h : ¬ sk_cl x) (hp : post 0) : wpY_closes post x :=
  br_f (fun z => h (Or.inl z)) (br_f (fun z => h (Or.inr (Or.inl z))) (br_f (fun z => h (Or.inr (Or.inr (Or.inl z)))) (br_f (fun z => h (Or.inr (Or.inr (Or.inr z)))) hp)))
def sy_pd : Nat → Int32
  | 0 => -1
  | q + 1 => nI q
theorem sy_pd2 (p : Nat) : nI p + (-1) = sy_pd p := by
  cases p with
  | zero => rw [nI_0]; rfl
  | succ q => exact pk_m1 q
theorem sy_pd1 (p : Nat) : nI p - 1 = sy_pd p := by
  cases p with
  | zero => rw [nI_0]; rfl
  | succ q => exact nI_pred q
def sk_fn (c : Nat → Int32) (s : Int32) : List (Nat × Nat) → Int32
  | [] => -1
  | (q, _) :: t => if s < 0 ∨ c q = s then nI q else sk_fn c s t
theorem sy_ar {s : Int32} {post : Int32 → Prop} : ∀ (p k : Nat), p ≤ 80 → k + p < 1000 → post (sk_fn c s ((sk_R c p).drop k)) → wY_around_7 post s yT tr ep yD yE lv yt c a stk em ce po yc ye (p + 1) (nI k) (sy_pd p)
  | 0, k, _, _, hp => by
    rw [sk_R, List.drop_nil] at hp
    exact br_t (by decide) hp
  | p + 1, k, h80, hk, hp => by
    refine br_f (nI_pos (n := p) (by omega)) ⟨vp_in_nI (n := p) (by omega) (by decide), ?_⟩
    show _ ∧ _
    rw [show sy_pd (p + 1) = nI p from rfl, nI_clamp (n := p) (by omega)]
    by_cases z : c p = 26
    · rw [sk_R26 z, List.drop_nil] at hp
      exact br_t z hp
    · refine br_f z ⟨vp_in_nI (n := p) (by omega) (by decide), ?_⟩
      by_cases h2 : sk_cl (c p)
      · refine sy_clT h2 (br_f (by decide) (nm_r (nI_1 k) (nm_r (sy_pd2 p) ?_)))
        refine sy_ar p (k + 1) (by omega) (by omega) ?_
        rw [sk_Rcl h2, List.drop_tail] at hp
        exact hp
      · refine sy_clF h2 (br_t rfl ⟨vp_in_nI (n := p) (by omega) (by decide), ?_⟩)
        by_cases h1 : sk_op (c p)
        · refine sy_opT h1 (br_f (by decide) ?_)
          rw [sk_Rop h1] at hp
          cases k with
          | zero =>
            have ih := sy_ar (s := s) (post := post) p 0 (by omega) (by omega)
            refine br_t nI_0 ?_
            have hp' : post (if s < 0 ∨ c p = s then nI p else sk_fn c s (sk_R c p)) := hp
            by_cases hs : s < 0
            · rw [if_pos (Or.inl hs)] at hp'
              exact br_t hs hp'
            · refine br_f hs ⟨vp_in_nI (n := p) (by omega) (by decide), ?_⟩
              by_cases hs2 : c p = s
              · rw [if_pos (Or.inr hs2)] at hp'
                exact br_t hs2 hp'
              · rw [if_neg (by intro y; exact y.elim hs hs2)] at hp'
                exact br_f hs2 (br_t (by rw [nI_0]; decide) (nm_r (sy_pd2 p) (ih hp')))
          | succ k =>
            refine br_f (nI_ne0 (by omega) (by omega)) (br_f (nI_nle (by omega) (by omega)) (nm_r (pk_m1 k) (nm_r (sy_pd2 p) ?_)))
            exact sy_ar p k (by omega) (by omega) hp
        · refine sy_opF h1 (br_t rfl (nm_r (sy_pd2 p) ?_))
          refine sy_ar p k (by omega) (by omega) ?_
          by_cases h3 : c p = 17 ∨ c p = 21
          · rw [sk_Rch h3] at hp
            revert hp
            cases sk_R c p with
            | nil => exact fun hp => hp
            | cons x t =>
              obtain ⟨q, y⟩ := x
              intro hp
              cases k with
              | zero => exact hp
              | succ k => exact hp
          · rw [sk_Rpl h1 h2 h3 z] at hp
            exact hp
theorem sy_around {s : Int32} {post : Int32 → Prop} {p : Nat} (h : p ≤ 80) (hp : post (sk_fn c s (sk_R c p))) : wpY_around post (yT, tr, ep, yD, yE, lv, yt, c, a, stk, em, ce, po, yc, ye) (nI p) s :=
  nm_r (sy_pd1 p) ⟨p + 1, by rw [← nI_0]; exact sy_ar p 0 h (by omega) hp⟩
theorem sy_so {post : Int32 → Prop} : ∀ (p k : Nat), p ≤ 80 → k + p < 1000 → (∀ q, q < p → (c q = 17 ∨ c q = 21) → sk_R c q ≠ []) → post (sk_hs c ((sk_R c p).drop k)) → wY_sort_6 post yT tr ep yD yE lv yt c a stk em ce po yc ye (p + 1) (nI k) (sy_pd p)
  | 0, k, _, _, _, hp => by
    rw [sk_R, List.drop_nil] at hp
    exact br_t (by decide) hp
  | p + 1, k, h80, hk, W, hp => by
    have V : ∀ {N : Nat}, N = 80 → vp_in (nI p) N := fun e => by rw [e]; exact vp_in_nI (n := p) (by omega) (by decide)
    refine br_f (nI_pos (n := p) (by omega)) ⟨V rfl, ?_⟩
    show _ ∧ _
    rw [show sy_pd (p + 1) = nI p from rfl, nI_clamp (n := p) (by omega)]
    by_cases z : c p = 26
    · rw [sk_R26 z, List.drop_nil] at hp
      exact br_t z hp
    · refine br_f z ⟨V rfl, ?_⟩
      have ih := fun k' => sy_so (post := post) p k' (by omega)
      have W' : ∀ q, q < p → (c q = 17 ∨ c q = 21) → sk_R c q ≠ [] := fun q hq => W q (by omega)
      by_cases h2 : sk_cl (c p)
      · refine sy_clT h2 (br_f (by decide) (nm_r (nI_1 k) (nm_r (sy_pd2 p) ?_)))
        refine ih (k + 1) (by omega) W' ?_
        rw [sk_Rcl h2, List.drop_tail] at hp
        exact hp
      · refine sy_clF h2 (br_t rfl ?_)
        by_cases h1 : sk_op (c p)
        · rw [sk_Rop h1] at hp
          cases k with
          | zero => exact br_t nI_0 ⟨V rfl, sy_opT h1 (br_f (by decide) ⟨V rfl, hp⟩)⟩
          | succ k =>
            refine br_f (nI_ne0 (by omega) (by omega)) ⟨V rfl, ?_⟩
            rw [nI_clamp (n := p) (by omega)]
            exact sy_opT h1 (br_f (by decide) (nm_r (pk_m1 k) (nm_r (sy_pd2 p) (ih k (by omega) W' hp))))
        · by_cases h3 : c p = 17 ∨ c p = 21
          · have W0 := W p (by omega) h3
            rw [sk_Rch h3] at hp
            revert hp W0
            generalize hL : sk_R c p = L
            intro hp W0
            cases L with
            | nil => exact absurd rfl W0
            | cons x t =>
              obtain ⟨q, y⟩ := x
              cases k with
              | zero =>
                refine br_t nI_0 ⟨V rfl, sy_opF h1 (br_t rfl ⟨V rfl, ?_⟩)⟩
                by_cases h17 : c p = 17
                · exact br_t h17 ⟨V rfl, hp⟩
                · have h21 : c p = 21 := h3.resolve_left h17
                  exact br_f h17 ⟨V rfl, br_t h21 ⟨V rfl, hp⟩⟩
              | succ k =>
                refine br_f (nI_ne0 (by omega) (by omega)) ⟨V rfl, ?_⟩
                rw [nI_clamp (n := p) (by omega)]
                refine sy_opF h1 (br_t rfl (nm_r (sy_pd2 p) (ih (k + 1) (by omega) W' ?_)))
                rw [hL]; exact hp
          · rw [sk_Rpl h1 h2 h3 z] at hp
            have go : wY_sort_84 post (wY_sort_6 post yT tr ep yD yE lv yt c a stk em ce po yc ye (p + 1)) (nI k) (nI p) yT tr ep yD yE lv yt c a stk em ce po yc ye := by
              refine ⟨V rfl, ?_⟩
              rw [nI_clamp (n := p) (by omega)]
              exact sy_opF h1 (br_t rfl (nm_r (sy_pd2 p) (ih k (by omega) W' hp)))
            cases k with
            | zero => exact br_t nI_0 ⟨V rfl, sy_opF h1 (br_t rfl ⟨V rfl, br_f (fun y => h3 (Or.inl y)) ⟨V rfl, br_f (fun y => h3 (Or.inr y)) go⟩⟩)⟩
            | succ k => exact br_f (nI_ne0 (by omega) (by omega)) go
theorem sy_sort {post : Int32 → Prop} {p : Nat} (h : p ≤ 80) (W : ∀ q, q < p → (c q = 17 ∨ c q = 21) → sk_R c q ≠ []) (hp : post (sk_hs c (sk_R c p))) : wpY_sort post (yT, tr, ep, yD, yE, lv, yt, c, a, stk, em, ce, po, yc, ye) (nI p) :=
  nm_r (sy_pd1 p) ⟨p + 1, by rw [← nI_0]; exact sy_so p 0 h (by omega) W hp⟩
theorem sy_a1 (x : Int32) (m : Nat) : x + 1 + nI m = x + nI (m + 1) := by
  rw [← nI_1, Int32.add_comm (nI m) 1, Int32.add_assoc]
theorem sy_a2 (x : Int32) (m : Nat) : x + (-1) + nI (m + 1) = x + nI m := by
  rw [Int32.add_assoc, Int32.add_comm (-1), pk_m1]
theorem sy_op {post : Int32 → Prop} : ∀ (p : Nat) (x : Int32), p ≤ 80 → (∀ q, q < p → sk_cl (c q) → sk_R c q ≠ []) → post (x + nI (sk_R c p).length) → wY_openParts_6 post yT tr ep yD yE lv yt c a stk em ce po yc ye (p + 1) x (sy_pd p)
  | 0, x, _, _, hp => by
    have hp : post (x + nI 0) := hp
    rw [nI_0, Int32.add_zero] at hp
    exact br_t (by decide) hp
  | p + 1, x, h80, W, hp => by
    have V : ∀ {N : Nat}, N = 80 → vp_in (nI p) N := fun e => by rw [e]; exact vp_in_nI (n := p) (by omega) (by decide)
    refine br_f (nI_pos (n := p) (by omega)) ⟨V rfl, ?_⟩
    show _ ∧ _
    rw [show sy_pd (p + 1) = nI p from rfl, nI_clamp (n := p) (by omega)]
    by_cases z : c p = 26
    · rw [sk_R26 z] at hp
      have hp : post (x + nI 0) := hp
      rw [nI_0, Int32.add_zero] at hp
      exact br_t z hp
    · refine br_f z ⟨V rfl, ?_⟩
      have ih := fun x' => sy_op (post := post) p x' (by omega) (fun q hq => W q (by omega))
      by_cases h1 : sk_op (c p)
      · rw [sk_Rop h1, List.length_cons, ← sy_a1] at hp
        refine sy_opT h1 (br_f (by decide) (nm_e ⟨V rfl, ?_⟩))
        rw [nI_clamp (n := p) (by omega)]
        exact sy_clF (fun y => sk_opcl y h1) (br_t rfl (nm_r (sy_pd2 p) (ih (x + 1) hp)))
      · refine sy_opF h1 (br_t rfl ⟨V rfl, ?_⟩)
        rw [nI_clamp (n := p) (by omega)]
        by_cases h2 : sk_cl (c p)
        · refine sy_clT h2 (br_f (by decide) (nm_e (nm_r (sy_pd2 p) (ih (x + (-1)) ?_))))
          have W0 := W p (by omega) h2
          rw [sk_Rcl h2] at hp
          revert hp W0
          cases sk_R c p with
          | nil => exact fun _ y => absurd rfl y
          | cons y t =>
            intro hp _
            rw [List.length_cons, sy_a2]; exact hp
        · refine sy_clF h2 (br_t rfl (nm_r (sy_pd2 p) (ih x ?_)))
          by_cases h3 : c p = 17 ∨ c p = 21
          · rw [sk_Rch h3] at hp
            revert hp
            cases sk_R c p with
            | nil => exact fun hp => hp
            | cons y t => exact fun hp => hp
          · rw [sk_Rpl h1 h2 h3 z] at hp
            exact hp
theorem sy_openParts {post : Int32 → Prop} {p : Nat} (h : p ≤ 80) (W : ∀ q, q < p → sk_cl (c q) → sk_R c q ≠ []) (hp : post (nI (sk_R c p).length)) : wpY_openParts post (yT, tr, ep, yD, yE, lv, yt, c, a, stk, em, ce, po, yc, ye) (nI p) :=
  nm_r (sy_pd1 p) ⟨p + 1, sy_op p 0 h W (by rw [Int32.zero_add]; exact hp)⟩
end
end
section
theorem zz_bad : (1 : Nat) = 2 := rfl
end
