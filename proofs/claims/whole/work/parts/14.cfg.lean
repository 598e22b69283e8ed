theorem sk_R6 {c a : Nat → Int32} : ∀ {p : Nat}, (∀ q, q < p → sk_Tk c a q) → (sk_R c p).length ≤ 6
  | 0, _ => Nat.zero_le _
  | p + 1, h => by
    have ih := sk_R6 (p := p) (fun q hq => h q (by omega))
    by_cases h1 : sk_op (c p)
    · rw [sk_Rop h1, List.length_cons]
      have hi : sk_in c p = 1 := by
        rcases sk_in01 c p with y | y
        · have := ((h p (by omega)).1 y).1
          rcases h1 with z | z | z <;> rw [z] at this <;> exact absurd this (by decide)
        · exact y
      have := ((h p (by omega)).2 hi).2.2.1 h1
      omega
    · by_cases h2 : sk_cl (c p)
      · rw [sk_Rcl h2, List.length_tail]; omega
      · by_cases h3 : c p = 17 ∨ c p = 21
        · rw [sk_Rch h3]
          revert ih
          cases sk_R c p with
          | nil => exact fun ih => ih
          | cons x t => exact fun ih => ih
        · by_cases h4 : c p = 26
          · rw [sk_R26 h4]; exact Nat.zero_le _
          · rw [sk_Rpl h1 h2 h3 h4]; exact ih
theorem sk_HIlen {c : Nat → Int32} {p : Nat} {x : Nat × Nat} : ∀ {L : List (Nat × Nat)}, sk_HI c p L → x ∈ L → (sk_R c x.1).length < L.length
  | [], _, h => by cases h
  | (q, k) :: t, ⟨h1, _, _, _, _, _, _, _, h9⟩, h => by
    rw [List.length_cons]
    rcases List.mem_cons.mp h with h | h
    · subst h
      show (sk_R c q).length < _
      rw [h1]; omega
    · have := sk_HIlen h9 h
      omega
def sk_sm (po : Nat → Int32) : Nat → Nat
  | 0 => 0
  | l + 1 => sk_sm po l + (80 - (po l).toNatClampNeg)
theorem sk_smu (po : Nat → Int32) (j : Nat) (x : Int32) : ∀ l, l ≤ j → sk_sm (upd po j x) l = sk_sm po l
  | 0, _ => rfl
  | l + 1, h => by rw [sk_sm, sk_sm, sk_smu po j x l (by omega), pk_un (by omega)]
def sk_CN (c ct cm yc ye : Nat → Int32) (l p : Nat) : Prop :=
  ∀ x, x ∈ sk_R c p → c x.1 = 23 → ct (l * 6 + (sk_R c x.1).length) = yc (80 * l + x.1) ∧ cm (l * 6 + (sk_R c x.1).length) = ye (80 * l + x.1)
def sk_F (T : Nat) (c ct cm yc ye po : Nat → Int32) (l p : Nat) : Prop := p < T ∧ sk_in c p = 1 ∧ po l = nI p ∧ sk_CN c ct cm yc ye l p
def sk_K (T : Nat) (c : Nat → Int32) (D E p t l : Nat) (rp ct cm po yc ye : Nat → Int32) : Prop :=
  D ≤ 16 ∧ E ≤ 16 ∧ t ≤ 200 ∧ l ≤ 7 ∧ sk_F T c ct cm yc ye po l p ∧ ∀ j, j < l → ∃ p', sk_F T c ct cm yc ye po j p' ∧ rp (j + 1) = nI p'
def sk_M (po : Nat → Int32) (l t : Nat) : Nat := sk_sm po (l + 1) + 80 * (200 - t)
section
variable {T : Nat} {c a nm nv jm cp rp ct cm po yc ye ct' cm' yc' ye' : Nat → Int32} {vc : Int32} {D E D' E' p p' t t' l : Nat}
theorem sk_nx (G : sk_G T c a nm nv vc jm cp) (hp : p < T) (hi : sk_in c p = 1) (h27 : c p ≠ 27) : p + 1 < T ∧ sk_in c (p + 1) = 1 := by
  have O := (G.1 p hp).2 hi
  have e : sk_in c (p + 1) = 1 := by rw [sk_inS O.1.2.2 h27]; exact hi
  refine ⟨?_, e⟩
  by_cases y : p + 1 = T
  · rw [y, G.2.1] at e
    exact absurd e (by decide)
  · omega
theorem sk_lt (G : sk_G T c a nm nv vc jm cp) (hp : p ≤ T) (hi : sk_in c p = 1) : p < T := by
  by_cases y : p = T
  · rw [y, G.2.1] at hi
    exact absurd hi (by decide)
  · omega
/-- a move within a word -/
theorem sk_Kv (h80 : T ≤ 80) (G : sk_G T c a nm nv vc jm cp) (K : sk_K T c D E p t l rp ct cm po yc ye) (hD : D' ≤ 16) (hE : E' ≤ 16) (hp : p' < T) (hi : sk_in c p' = 1) (ht : (t' = t ∧ p < p') ∨ (t' = t + 1 ∧ t < 200))
    (hC : sk_CN c ct' cm' yc' ye' l p') (hj : ∀ j, j < l → (∀ n, n < 6 → ct' (j * 6 + n) = ct (j * 6 + n) ∧ cm' (j * 6 + n) = cm (j * 6 + n)) ∧ (∀ n, n < 80 → yc' (80 * j + n) = yc (80 * j + n) ∧ ye' (80 * j + n) = ye (80 * j + n))) :
    sk_K T c D' E' p' t' l rp ct' cm' (upd po l (nI p')) yc' ye' ∧ sk_M (upd po l (nI p')) l t' < sk_M po l t := by
  obtain ⟨k1, k2, k3, k4, ⟨f1, f2, f3, f4⟩, k6⟩ := K
  refine ⟨⟨hD, hE, by omega, k4, ⟨hp, hi, pk_us, hC⟩, ?_⟩, ?_⟩
  · intro j hjl
    obtain ⟨q, ⟨q1, q2, q3, q4⟩, q5⟩ := k6 j hjl
    refine ⟨q, ⟨q1, q2, by rw [pk_un (by omega)]; exact q3, ?_⟩, q5⟩
    intro x hx hc
    have TT : ∀ r, r < q → sk_Tk c a r := fun r hr => G.1 r (by omega)
    have H := (sk_HIa TT).1
    have l6 := sk_R6 TT
    have b1 := sk_HIlen H hx
    have b2 := sk_HIlt H hx
    obtain ⟨e1, e2⟩ := hj j hjl
    obtain ⟨e3, e4⟩ := e1 (sk_R c x.1).length (by omega)
    obtain ⟨e5, e6⟩ := e2 x.1 (by omega)
    rw [e3, e4, e5, e6]
    exact q4 x hx hc
  · unfold sk_M
    rw [sk_sm, sk_sm, sk_smu po l _ l (Nat.le_refl _), pk_us, f3, nI_clamp (n := p) (by omega), nI_clamp (n := p') (by omega)]
    omega
/-- .. that touches no count -/
theorem sk_Ka (h80 : T ≤ 80) (G : sk_G T c a nm nv vc jm cp) (K : sk_K T c D E p t l rp ct cm po yc ye) (hD : D' ≤ 16) (hE : E' ≤ 16) (hp : p' < T) (hi : sk_in c p' = 1) (ht : (t' = t ∧ p < p') ∨ (t' = t + 1 ∧ t < 200))
    (hC : ∀ x, x ∈ sk_R c p' → c x.1 = 23 → ∃ k, (x.1, k) ∈ sk_R c p) :
    sk_K T c D' E' p' t' l rp ct cm (upd po l (nI p')) yc ye ∧ sk_M (upd po l (nI p')) l t' < sk_M po l t := by
  refine sk_Kv h80 G K hD hE hp hi ht ?_ (fun j hj => ⟨fun n hn => ⟨rfl, rfl⟩, fun n hn => ⟨rfl, rfl⟩⟩)
  intro x hx hc
  obtain ⟨k, hk⟩ := hC x hx hc
  exact K.2.2.2.2.1.2.2.2 (x.1, k) hk hc
/-- .. to the next token -/
theorem sk_Kn (h80 : T ≤ 80) (G : sk_G T c a nm nv vc jm cp) (K : sk_K T c D E p t l rp ct cm po yc ye) (hD : D' ≤ 16) (hE : E' ≤ 16) (ht : t' = t) (h27 : c p ≠ 27) (hC : ∀ x, x ∈ sk_R c (p + 1) → c x.1 = 23 → ∃ k, (x.1, k) ∈ sk_R c p) :
    sk_K T c D' E' (p + 1) t' l rp ct cm (upd po l (nI (p + 1))) yc ye ∧ sk_M (upd po l (nI (p + 1))) l t' < sk_M po l t := by
  have n := sk_nx G K.2.2.2.2.1.1 K.2.2.2.2.1.2.1 h27
  exact sk_Ka h80 G K hD hE n.1 n.2 (Or.inl ⟨ht, by omega⟩) hC
theorem sk_Sp (h : sk_R c (p + 1) = sk_R c p) : ∀ x, x ∈ sk_R c (p + 1) → c x.1 = 23 → ∃ k, (x.1, k) ∈ sk_R c p := by
  intro x hx _
  rw [h] at hx
  exact ⟨x.2, hx⟩
theorem sk_Sc (h : sk_cl (c p)) : ∀ x, x ∈ sk_R c (p + 1) → c x.1 = 23 → ∃ k, (x.1, k) ∈ sk_R c p := by
  intro x hx _
  rw [sk_Rcl h] at hx
  exact ⟨x.2, List.mem_of_mem_tail hx⟩
theorem sk_So (h : sk_op (c p)) (h' : c p ≠ 23) : ∀ x, x ∈ sk_R c (p + 1) → c x.1 = 23 → ∃ k, (x.1, k) ∈ sk_R c p := by
  intro x hx hc
  rw [sk_Rop h] at hx
  rcases List.mem_cons.mp hx with y | y
  · subst y; exact absurd hc h'
  · exact ⟨x.2, y⟩
theorem sk_Sh (h : c p = 17 ∨ c p = 21) : ∀ x, x ∈ sk_R c (p + 1) → c x.1 = 23 → ∃ k, (x.1, k) ∈ sk_R c p := by
  intro x hx hc
  rw [sk_Rch h] at hx
  revert hx
  cases sk_R c p with
  | nil => intro hx; cases hx
  | cons y t =>
    obtain ⟨q, k⟩ := y
    intro hx
    rcases List.mem_cons.mp hx with z | z
    · subst z; exact ⟨k, List.mem_cons_self ..⟩
    · exact ⟨x.2, List.mem_cons_of_mem _ z⟩
/-- back to the first token of a part -/
theorem sk_Sb {s k : Nat} {u : List (Nat × Nat)} (TT : ∀ q, q < p → sk_Tk c a q) (hR : sk_R c p = (s, k) :: u) : s < p ∧ sk_in c (s + 1) = 1 ∧ sk_R c s = u ∧ (c k = 23 ↔ c s = 23) ∧ ∀ x, x ∈ sk_R c (s + 1) → c x.1 = 23 → ∃ k, (x.1, k) ∈ sk_R c p := by
  have H := (sk_HIa TT).1
  rw [hR] at H
  obtain ⟨h1, h2, h3, h4, h5, h6, h7, h8, h9⟩ := H
  refine ⟨h2, h5, h1, h8, ?_⟩
  intro x hx hc
  rw [sk_Rop h6, h1] at hx
  rw [hR]
  rcases List.mem_cons.mp hx with z | z
  · subst z; exact ⟨k, List.mem_cons_self ..⟩
  · exact ⟨x.2, List.mem_cons_of_mem _ z⟩
/-- TIMES -/
theorem sk_Kt (h80 : T ≤ 80) (G : sk_G T c a nm nv vc jm cp) (K : sk_K T c D E p t l rp ct cm po yc ye) (hD : D' ≤ 16) (h23 : c p = 23) {x : Int32} :
    sk_K T c D' E (p + 1) t l rp (upd ct (l * 6 + (sk_R c p).length) 0) (upd cm (l * 6 + (sk_R c p).length) x) (upd po l (nI (p + 1))) (upd yc (80 * l + p) 0) (upd ye (80 * l + p) x) ∧ sk_M (upd po l (nI (p + 1))) l t < sk_M po l t := by
  have hp := K.2.2.2.2.1.1
  have n := sk_nx G hp K.2.2.2.2.1.2.1 (by rw [h23]; decide)
  have TT : ∀ q, q < p → sk_Tk c a q := fun q hq => G.1 q (by omega)
  have H := (sk_HIa TT).1
  refine sk_Kv h80 G K hD K.2.1 n.1 n.2 (Or.inl ⟨rfl, by omega⟩) ?_ (fun j hj => ⟨fun n hn => ⟨pk_un (by omega), pk_un (by omega)⟩, fun n hn => ⟨pk_un (by omega), pk_un (by omega)⟩⟩)
  intro y hy hc
  rw [sk_Rop (by rw [h23]; decide)] at hy
  rcases List.mem_cons.mp hy with z | z
  · subst z
    show upd ct _ 0 (l * 6 + (sk_R c p).length) = upd yc _ 0 (80 * l + p) ∧ upd cm _ x (l * 6 + (sk_R c p).length) = upd ye _ x (80 * l + p)
    rw [pk_us, pk_us, pk_us, pk_us]
    exact ⟨rfl, rfl⟩
  · have b1 := sk_HIlen H z
    have b2 := sk_HIlt H z
    rw [pk_un (by omega), pk_un (by omega), pk_un (by omega), pk_un (by omega)]
    exact K.2.2.2.2.1.2.2.2 y z hc
theorem sk_Ku (h80 : T ≤ 80) (G : sk_G T c a nm nv vc jm cp) (K : sk_K T c D E p t l rp ct cm po yc ye) (hD : D' ≤ 16) (hp' : p' < T) (hi : sk_in c p' = 1) (hpp : p < p') (hC : ∀ x, x ∈ sk_R c p' → c x.1 = 23 → ∃ k, (x.1, k) ∈ sk_R c p) {x y : Int32} :
    sk_K T c D' E p' t l rp ct cm (upd po l (nI p')) (upd yc (80 * l + p) x) (upd ye (80 * l + p) y) ∧ sk_M (upd po l (nI p')) l t < sk_M po l t := by
  have hp := K.2.2.2.2.1.1
  have TT : ∀ q, q < p → sk_Tk c a q := fun q hq => G.1 q (by omega)
  have H := (sk_HIa TT).1
  refine sk_Kv h80 G K hD K.2.1 hp' hi (Or.inl ⟨rfl, hpp⟩) ?_ (fun j hj => ⟨fun n hn => ⟨rfl, rfl⟩, fun n hn => ⟨pk_un (by omega), pk_un (by omega)⟩⟩)
  intro z hz hc
  obtain ⟨k, hk⟩ := hC z hz hc
  have b2 : z.1 < p := sk_HIlt (x := (z.1, k)) H hk
  rw [pk_un (by omega), pk_un (by omega)]
  exact K.2.2.2.2.1.2.2.2 (z.1, k) hk hc
/-- NEXT -/
theorem sk_Kx (h80 : T ≤ 80) (G : sk_G T c a nm nv vc jm cp) (K : sk_K T c D E p t l rp ct cm po yc ye) (ht : t < 200) {s k : Nat} {u : List (Nat × Nat)} (hR : sk_R c p = (s, k) :: u) (hs : sk_R c s = u) (hp' : p' < T) (hi : sk_in c p' = 1) (hC : ∀ x, x ∈ sk_R c p' → c x.1 = 23 → ∃ k, (x.1, k) ∈ sk_R c p) {x : Int32} :
    sk_K T c D E p' (t + 1) l rp (upd ct (l * 6 + u.length) x) cm (upd po l (nI p')) (upd yc (80 * l + s) x) ye ∧ sk_M (upd po l (nI p')) l (t + 1) < sk_M po l t := by
  have hp := K.2.2.2.2.1.1
  have TT : ∀ q, q < p → sk_Tk c a q := fun q hq => G.1 q (by omega)
  have H := (sk_HIa TT).1
  refine sk_Kv h80 G K K.1 K.2.1 hp' hi (Or.inr ⟨rfl, ht⟩) ?_ (fun j hj => ⟨fun n hn => ⟨pk_un (by omega), rfl⟩, fun n hn => ⟨pk_un (by omega), rfl⟩⟩)
  intro z hz hc
  obtain ⟨k', hk⟩ := hC z hz hc
  have old := K.2.2.2.2.1.2.2.2 (z.1, k') hk hc
  by_cases e : z.1 = s
  · rw [e, hs, pk_us, pk_us]
    have old : ct (l * 6 + (sk_R c z.1).length) = yc (80 * l + z.1) ∧ cm (l * 6 + (sk_R c z.1).length) = ye (80 * l + z.1) := old
    rw [e, hs] at old
    exact ⟨rfl, old.2⟩
  · have : (z.1, k') ∈ u := by
      rw [hR] at hk
      rcases List.mem_cons.mp hk with w | w
      · exact absurd (congrArg Prod.fst w) e
      · exact w
    rw [hR] at H
    have b1 : (sk_R c z.1).length < u.length := sk_HIlen (x := (z.1, k')) H.2.2.2.2.2.2.2.2 this
    rw [pk_un (by omega), pk_un (by omega)]
    exact old
/-- a word is called -/
theorem sk_Kc (h80 : T ≤ 80) (G : sk_G T c a nm nv vc jm cp) (K : sk_K T c D E p t l rp ct cm po yc ye) (ht : t < 200) (hl : l < 7) (h15 : c p = 15) {q : Nat} (hq : q < T) (h26 : c q = 26) :
    sk_K T c D E (q + 1) (t + 1) (l + 1) (upd rp (l + 1) (nI (p + 1))) ct cm (upd (upd po l (nI (p + 1))) (l + 1) (nI (q + 1))) yc ye ∧ sk_M (upd (upd po l (nI (p + 1))) (l + 1) (nI (q + 1))) (l + 1) (t + 1) < sk_M po l t := by
  obtain ⟨k1, k2, k3, k4, ⟨f1, f2, f3, f4⟩, k6⟩ := K
  have i26 := sk_in26 h26
  have q1 := sk_lt G (p := q + 1) (by omega) i26
  have n := sk_nx G f1 f2 (by rw [h15]; decide)
  have eR : sk_R c (p + 1) = sk_R c p := sk_Rpl (by rw [h15]; decide) (by rw [h15]; decide) (by rw [h15]; decide) (by rw [h15]; decide)
  refine ⟨⟨k1, k2, by omega, by omega, ⟨q1, i26, pk_us, ?_⟩, ?_⟩, ?_⟩
  · intro x hx
    rw [sk_R26 h26] at hx
    cases hx
  · intro j hj
    by_cases e : j = l
    · subst e
      refine ⟨p + 1, ⟨n.1, n.2, by rw [pk_un (by omega), pk_us], ?_⟩, pk_us⟩
      intro x hx hc
      rw [eR] at hx
      exact f4 x hx hc
    · obtain ⟨r, ⟨r1, r2, r3, r4⟩, r5⟩ := k6 j (by omega)
      exact ⟨r, ⟨r1, r2, by rw [pk_un (by omega), pk_un (by omega)]; exact r3, r4⟩, by rw [pk_un (by omega)]; exact r5⟩
  · unfold sk_M
    rw [sk_sm, sk_sm, sk_sm, sk_smu _ (l + 1) _ l (by omega), sk_smu po l _ l (Nat.le_refl _), pk_us, pk_un (j := l) (k := l + 1) (by omega), pk_us, f3, nI_clamp (n := p) (by omega), nI_clamp (n := p + 1) (by omega), nI_clamp (n := q + 1) (by omega)]
    omega
/-- a word ends -/
theorem sk_Ke (h80 : T ≤ 80) (K : sk_K T c D E p t (l + 1) rp ct cm po yc ye) : ∃ p', rp (l + 1) = nI p' ∧ sk_K T c D E p' t l rp ct cm po yc ye ∧ sk_M po l t < sk_M po (l + 1) t := by
  obtain ⟨k1, k2, k3, k4, ⟨f1, f2, f3, f4⟩, k6⟩ := K
  obtain ⟨r, rF, r5⟩ := k6 l (by omega)
  refine ⟨r, r5, ⟨k1, k2, k3, by omega, rF, fun j hj => k6 j (by omega)⟩, ?_⟩
  unfold sk_M
  have e : sk_sm po (l + 1 + 1) = sk_sm po (l + 1) + (80 - (po (l + 1)).toNatClampNeg) := rfl
  rw [e, f3, nI_clamp (n := p) (by omega)]
  omega
end
