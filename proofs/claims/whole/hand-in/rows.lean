section
/-! rows pasted from the rows to paste: stores, nI, branches by naturals, bits -/
theorem pk_us {f : Nat → Int32} {k : Nat} {x : Int32} : upd f k x k = x := if_pos rfl
theorem pk_un {f : Nat → Int32} {k j : Nat} {x : Int32} (h : j ≠ k) : upd f k x j = f j := if_neg h
theorem pk_sub {a b : Nat} (h : b ≤ a) : nI a - nI b = nI (a - b) := by
  obtain ⟨c, rfl⟩ : ∃ c, a = c + b := ⟨a - b, by omega⟩
  rw [← nI_add, Int32.add_sub_cancel, Nat.add_sub_cancel]
theorem pk_m1 (n : Nat) : nI (n + 1) + (-1) = nI n := by
  rw [← nI_1, Int32.add_assoc, show (1 : Int32) + (-1) = 0 from rfl, Int32.add_zero]
theorem pk_mul (a b : Nat) : nI a * nI b = nI (a * b) := (Int32.ofNat_mul a b).symm
theorem pk_div {a d : Nat} (ha : a < 2 ^ 31) (h0 : 0 < d) (hd : d < 2 ^ 31) : nI a / nI d = nI (a / d) := by
  apply Int32.toInt_inj.mp
  rw [lg_idiv_nonneg (by rw [nI_toInt ha]; omega) (by rw [nI_toInt hd]; omega), nI_toInt ha, nI_toInt hd, nI_toInt (Nat.lt_of_le_of_lt (Nat.div_le_self a d) ha)]
  first | rfl | exact (Int.natCast_ediv _ _).symm
theorem pk_rem {a d : Nat} (ha : a < 2 ^ 31) (h0 : 0 < d) (hd : d < 2 ^ 31) : nI a - nI a / nI d * nI d = nI (a % d) := by
  rw [pk_div ha h0 hd, pk_mul, pk_sub (Nat.div_mul_le_self a d)]
  exact congrArg nI (by have := Nat.div_add_mod' a d; omega)
theorem pk_ix (x : Int32) {n : Nat} (hn : n < 2 ^ 31) : x < 0 ∨ nI n ≤ x ∨ ∃ j : Nat, j < n ∧ x = nI j := by
  by_cases h : x < 0
  · exact Or.inl h
  · obtain ⟨j, hj, rfl⟩ := nI_of h
    by_cases h2 : j < n
    · exact Or.inr (Or.inr ⟨j, h2, rfl⟩)
    · exact Or.inr (Or.inl (nI_le (by omega) hj))
theorem pk_le {x y : Int32} {A B : Prop} (a b : Nat) (f : a ≤ b → A) (g : b < a → B) (hx : x = nI a := by rfl) (hy : y = nI b := by rfl) (ha : a < 2 ^ 31 := by omega) (hb : b < 2 ^ 31 := by omega) : (x ≤ y → A) ∧ (¬ x ≤ y → B) := by
  subst hx hy
  rw [nI_leI ha hb]
  exact ⟨f, fun z => g (by omega)⟩
theorem pk_lt {x y : Int32} {A B : Prop} (a b : Nat) (f : a < b → A) (g : b ≤ a → B) (hx : x = nI a := by rfl) (hy : y = nI b := by rfl) (ha : a < 2 ^ 31 := by omega) (hb : b < 2 ^ 31 := by omega) : (x < y → A) ∧ (¬ x < y → B) := by
  subst hx hy
  rw [nI_ltI ha hb]
  exact ⟨f, fun z => g (by omega)⟩
theorem pk_eq {x y : Int32} {A B : Prop} (a b : Nat) (f : a = b → A) (g : a ≠ b → B) (hx : x = nI a := by rfl) (hy : y = nI b := by rfl) (ha : a < 2 ^ 31 := by omega) (hb : b < 2 ^ 31 := by omega) : (x = y → A) ∧ (¬ x = y → B) := by
  subst hx hy
  rw [nI_eq ha hb]
  exact ⟨f, g⟩
theorem pk_in {x : Int32} (n N : Nat) (h : n < N) (hx : x = nI n := by rfl) (hN : N < 2 ^ 31 := by omega) : vp_in x N := by
  subst hx
  exact vp_in_nI h hN
theorem pk_cl {x : Int32} (n : Nat) (hx : x = nI n := by rfl) (h : n < 2 ^ 31 := by omega) : x.toNatClampNeg = n := by
  subst hx
  exact nI_clamp h
def bt (x : Int32) (i : Nat) : Bool := x.toBitVec.getLsbD i
theorem b_ext {x y : Int32} (h : ∀ i, i < 32 → bt x i = bt y i) : x = y := Int32.toBitVec_inj.mp (BitVec.eq_of_getLsbD_eq (fun i hi => h i hi))
theorem b_or (x y : Int32) (i : Nat) : bt (x ||| y) i = (bt x i || bt y i) := by unfold bt; rw [Int32.toBitVec_or, BitVec.getLsbD_or]
theorem b_and (x y : Int32) (i : Nat) : bt (x &&& y) i = (bt x i && bt y i) := by unfold bt; rw [Int32.toBitVec_and, BitVec.getLsbD_and]
theorem b_big {x : Int32} {i : Nat} (h : 32 ≤ i) : bt x i = false := BitVec.getLsbD_of_ge _ _ h
theorem b_0 (i : Nat) : bt 0 i = false := BitVec.getLsbD_zero
theorem s_l : ∀ n, n < 32 → ((nI n &&& 31).toBitVec.smod 32).toNat = n := by decide +kernel
theorem b_shl (n : Nat) (hn : n < 32) (x : Int32) {i : Nat} (hi : i < 32) : bt (x <<< (nI n &&& 31)) i = (decide (n ≤ i) && bt x (i - n)) := by
  unfold bt
  rw [Int32.toBitVec_shiftLeft]
  show (x.toBitVec <<< ((nI n &&& 31).toBitVec.smod 32).toNat).getLsbD i = _
  rw [s_l n hn, BitVec.getLsbD_shiftLeft]
  rcases Nat.lt_or_ge i n with h | h
  · simp [h, Nat.not_le.mpr h]
  · simp [hi, h, Nat.not_lt.mpr h]
theorem b_sshr (n : Nat) (hn : n < 32) (x : Int32) {i : Nat} (hi : i < 32) : bt (x >>> (nI n &&& 31)) i = if n + i < 32 then bt x (n + i) else bt x 31 := by
  unfold bt
  rw [Int32.toBitVec_shiftRight]
  show (x.toBitVec.sshiftRight ((nI n &&& 31).toBitVec.smod 32).toNat).getLsbD i = _
  rw [s_l n hn, BitVec.getLsbD_sshiftRight, BitVec.msb_eq_getLsbD_last]
  simp [hi]
end
section
/-! ===== the query's counts: (spans due, conditions due) after i tokens ===== -/
def ph_cs (t : Nat) (p : Nat × Nat) : Nat × Nat :=
  if t ≤ 11 then (p.1 - 1, p.2)
  else if t ≤ 18 then (p.1 + 1, p.2)
  else if t = 23 then (p.1 + 1, p.2 - 1)
  else if t = 22 then p
  else (p.1, p.2 + 1)
def ph_t (q : Nat → Int32) (i : Nat) : Nat := (q i).toNatClampNeg
def ph_c (q : Nat → Int32) : Nat → Nat × Nat
  | 0 => (0, 1)
  | i + 1 => ph_cs (ph_t q i) (ph_c q i)
def ph_ok (q : Nat → Int32) (i : Nat) : Prop :=
  q i = nI (ph_t q i) ∧ ((0 < (ph_c q i).1 ∧ ph_t q i ≤ 18) ∨ ((ph_c q i).1 = 0 ∧ 0 < (ph_c q i).2 ∧ 20 ≤ ph_t q i ∧ ph_t q i ≤ 23))
theorem ph_c_s (q : Nat → Int32) (i : Nat) : ph_c q (i + 1) = ph_cs (ph_t q i) (ph_c q i) := rfl
theorem ph_t_of {q : Nat → Int32} {i t : Nat} (h : q i = nI t) (ht : t < 2 ^ 31) : ph_t q i = t := by
  unfold ph_t; rw [h]; exact nI_clamp ht
theorem ph_c_ext {q q' : Nat → Int32} : ∀ i, (∀ j, j < i → q j = q' j) → ph_c q i = ph_c q' i := by
  intro i
  induction i with
  | zero => intro _; rfl
  | succ i ih =>
    intro h
    rw [ph_c_s, ph_c_s, ih (fun j hj => h j (by omega))]
    unfold ph_t
    rw [h i (by omega)]
theorem ph_cs_le (t : Nat) (p : Nat × Nat) : (ph_cs t p).1 + (ph_cs t p).2 ≤ p.1 + p.2 + 1 := by
  unfold ph_cs
  repeat' split
  all_goals first | omega | (dsimp only; omega)
theorem ph_c_le (q : Nat → Int32) : ∀ i, (ph_c q i).1 + (ph_c q i).2 ≤ i + 1 := by
  intro i
  induction i with
  | zero => exact Nat.le_refl 1
  | succ i ih =>
    have h := ph_cs_le (ph_t q i) (ph_c q i)
    rw [ph_c_s]
    omega
theorem ph_ok_ext {q q' : Nat → Int32} {i : Nat} (h : ∀ j, j < i + 1 → q j = q' j) (k : ph_ok q i) : ph_ok q' i := by
  have e : ph_t q' i = ph_t q i := by unfold ph_t; rw [h i (by omega)]
  unfold ph_ok
  rw [← ph_c_ext i (fun j hj => h j (by omega)), e, ← h i (by omega)]
  exact k
theorem ph_ok_pos {q : Nat → Int32} {i : Nat} (k : ph_ok q i) : 1 ≤ (ph_c q i).1 + (ph_c q i).2 := by
  obtain ⟨_, k⟩ := k
  omega
theorem ph_ok_le {q : Nat → Int32} {i : Nat} (k : ph_ok q i) : ph_t q i ≤ 23 := by
  obtain ⟨_, k⟩ := k
  omega
/-- how many parts a token takes -/
def ph_par (t : Nat) : Nat := if t ≤ 11 then 0 else if 22 ≤ t then 1 else 2
theorem ph_par_0 {t : Nat} (h : t ≤ 11) : ph_par t = 0 := if_pos h
theorem ph_par_1 {t : Nat} (h : 22 ≤ t) : ph_par t = 1 := by
  unfold ph_par; rw [if_neg (by omega), if_pos h]
theorem ph_par_2 {t : Nat} (h : 12 ≤ t) (h2 : t ≤ 21) : ph_par t = 2 := by
  unfold ph_par; rw [if_neg (by omega), if_neg (by omega)]
/-- the five kinds of token, with what they count -/
theorem ph_kinds {q : Nat → Int32} {i : Nat} (k : ph_ok q i) :
    (ph_t q i ≤ 11 ∧ ph_par (ph_t q i) = 0 ∧ (ph_c q i).1 = (ph_c q (i + 1)).1 + 1 ∧ (ph_c q i).2 = (ph_c q (i + 1)).2) ∨
    (12 ≤ ph_t q i ∧ ph_t q i ≤ 18 ∧ ph_par (ph_t q i) = 2 ∧ (ph_c q i).1 + 1 = (ph_c q (i + 1)).1 ∧ 2 ≤ (ph_c q (i + 1)).1 ∧ (ph_c q i).2 = (ph_c q (i + 1)).2) ∨
    (ph_t q i = 23 ∧ ph_par (ph_t q i) = 1 ∧ (ph_c q i).1 = 0 ∧ (ph_c q (i + 1)).1 = 1 ∧ (ph_c q i).2 = (ph_c q (i + 1)).2 + 1) ∨
    (ph_t q i = 22 ∧ ph_par (ph_t q i) = 1 ∧ (ph_c q i).1 = 0 ∧ (ph_c q (i + 1)).1 = 0 ∧ (ph_c q i).2 = (ph_c q (i + 1)).2 ∧ 1 ≤ (ph_c q i).2) ∨
    (20 ≤ ph_t q i ∧ ph_t q i ≤ 21 ∧ ph_par (ph_t q i) = 2 ∧ (ph_c q i).1 = 0 ∧ (ph_c q (i + 1)).1 = 0 ∧ (ph_c q i).2 + 1 = (ph_c q (i + 1)).2 ∧ 1 ≤ (ph_c q i).2) := by
  obtain ⟨_, k⟩ := k
  rw [ph_c_s]
  generalize ph_t q i = t at k
  generalize ph_c q i = p at k
  unfold ph_cs ph_par
  by_cases h1 : t ≤ 11
  · rw [if_pos h1, if_pos h1]; dsimp only; omega
  · by_cases h2 : t ≤ 18
    · rw [if_neg h1, if_neg h1, if_pos h2, if_neg (by omega)]; dsimp only; omega
    · by_cases h3 : t = 23
      · rw [if_neg h1, if_neg h1, if_neg h2, if_pos h3, if_pos (by omega)]; dsimp only; omega
      · by_cases h4 : t = 22
        · rw [if_neg h1, if_neg h1, if_neg h2, if_neg h3, if_pos h4, if_pos (by omega)]; omega
        · rw [if_neg h1, if_neg h1, if_neg h2, if_neg h3, if_neg h4, if_neg (by omega)]; dsimp only; omega
/-- what both sides keep alike -/
def ph_R (n : Nat) (wd ln q : Nat → Int32) : Prop :=
  n ≤ 12 ∧ (∀ i, i < n → ph_ok q i) ∧ (∀ d, d < 6 → ∃ l, l ≤ 24 ∧ ln d = nI l ∧ ∀ p, p < l → ∃ w, w ≤ 11 ∧ wd (24 * d + p) = nI w)
def i_Rel (_ : Nat) (u : SX) (v : SY) : Prop :=
  ∃ (n : Nat) (wd ln q np tr eb rw sk pl : Nat → Int32), u = (nI n, nI (ph_c q n).1, nI (ph_c q n).2, wd, ln, q, np, tr, eb) ∧ v = (nI n, ln, wd, q, rw, sk, pl) ∧ ph_R n wd ln q
theorem i_up {k : Nat} {u : SX} {v : SY} (h : i_Rel k u v) : i_Rel (k + 4) u v := h
theorem i_vc0 : wpX_init (fun u => wpY_init (fun v => i_Rel 0 u v)) :=
  ⟨0, fun _ => 0, fun _ => 0, fun _ => 0, fun _ => 0, fun _ => 0, fun _ => 0, fun _ => 0, fun _ => 0, fun _ => 0, rfl, rfl, by omega, fun i hi => by omega,
    fun d _ => ⟨0, by omega, rfl, fun p hp => by omega⟩⟩
theorem ph_mk {k n : Nat} {wd ln q np tr eb rw sk pl : Nat → Int32} (h : ph_R n wd ln q) :
    i_Rel k (nI n, nI (ph_c q n).1, nI (ph_c q n).2, wd, ln, q, np, tr, eb) (nI n, ln, wd, q, rw, sk, pl) :=
  ⟨n, wd, ln, q, np, tr, eb, rw, sk, pl, rfl, rfl, h⟩
end
section
theorem ph_b1 : ∀ i, i < 32 → bt 1 i = decide (i = 0) := by decide +kernel
theorem ph_bit (x : Int32) (f : Nat) (hf : f < 32) : (x >>> (nI f &&& 31)) &&& 1 = 1 ↔ bt x f = true := by
  constructor
  · intro h
    have h0 := congrArg (fun y => bt y 0) h
    rw [b_and, b_sshr f hf x (by omega), ph_b1 0 (by omega)] at h0
    simpa [hf] using h0
  · intro h
    apply b_ext
    intro i hi
    rw [b_and, b_sshr f hf x hi, ph_b1 i hi]
    by_cases z : i = 0
    · subst z; simp [hf, h]
    · simp [z]
theorem ph_sh0 (x : Int32) (e : Nat) (he : e < 32) : x >>> (nI e &&& 31) = 0 ↔ ∀ f, e ≤ f → f < 32 → bt x f = false := by
  constructor
  · intro h f h1 h2
    have h0 := congrArg (fun y => bt y (f - e)) h
    rw [b_sshr e he x (by omega), if_pos (by omega), b_0, show e + (f - e) = f by omega] at h0
    exact h0
  · intro h
    apply b_ext
    intro i hi
    rw [b_sshr e he x hi, b_0]
    split
    · exact h _ (by omega) (by omega)
    · exact h 31 (by omega) (by omega)
/-- no bit at 24 or above -/
def ph_lo (x : Int32) : Prop := ∀ f, 24 ≤ f → bt x f = false
def ph_then (x : Int32) (r : Nat → Int32) (k : Nat) : Nat → Int32
  | 0 => 0
  | e + 1 => if (x >>> (nI e &&& 31)) &&& 1 = 1 then ph_then x r k e ||| r (e + k) else ph_then x r k e
def ph_fill (x : Int32) : Nat → Int32
  | 0 => 0
  | e + 1 => if x >>> (nI e &&& 31) = 0 then ph_fill x e else ph_fill x e ||| ((1 : Int32) <<< (nI e &&& 31))
def ph_reach (r : Nat → Int32) : Nat → Int32
  | 0 => 0
  | b + 1 => ph_reach r b ||| ph_fill (r b) 24
/-- the reference's inner loop, from acc -/
def ph_yin (x acc : Int32) : Nat → Int32
  | 0 => acc
  | f + 1 => if (x >>> (nI f &&& 31)) &&& 1 = 1 then ph_yin x acc f ||| (((2 : Int32) <<< (nI f &&& 31)) - 1) else ph_yin x acc f
def ph_yw (r : Nat → Int32) : Nat → Int32
  | 0 => 0
  | c + 1 => ph_yin (r c) (ph_yw r c) 24
theorem ph_1l : ∀ e, e < 24 → ∀ i, i < 32 → bt ((1 : Int32) <<< (nI e &&& 31)) i = decide (i = e) := by decide +kernel
theorem ph_2l : ∀ f, f < 24 → ∀ i, i < 32 → bt (((2 : Int32) <<< (nI f &&& 31)) - 1) i = decide (i ≤ f) := by decide +kernel
theorem ph_fill_b (x : Int32) (hx : ph_lo x) {i : Nat} (hi : i < 32) : ∀ m, m ≤ 24 → (bt (ph_fill x m) i = true ↔ i < m ∧ ∃ f, i ≤ f ∧ f < 24 ∧ bt x f = true) := by
  intro m
  induction m with
  | zero => intro _; simp [ph_fill, b_0]
  | succ e ih =>
    intro hm
    have ih := ih (by omega)
    by_cases z : x >>> (nI e &&& 31) = 0
    · rw [ph_fill, if_pos z, ih]
      have z' := (ph_sh0 x e (by omega)).mp z
      constructor
      · intro ⟨a, b⟩; exact ⟨by omega, b⟩
      · intro ⟨a, f, b, c, d⟩
        refine ⟨?_, f, b, c, d⟩
        rcases Nat.lt_or_ge i e with h | h
        · exact h
        · rw [z' f (by omega) (by omega)] at d; exact absurd d (by decide)
    · rw [ph_fill, if_neg z, b_or, Bool.or_eq_true, ih, ph_1l e (by omega) i hi, decide_eq_true_eq]
      constructor
      · intro h
        rcases h with ⟨a, b⟩ | h
        · exact ⟨by omega, b⟩
        · subst h
          refine ⟨by omega, ?_⟩
          apply Classical.byContradiction
          intro n
          apply z
          rw [ph_sh0 x i (by omega)]
          intro f h1 h2
          rcases Nat.lt_or_ge f 24 with h | h
          · cases hb : bt x f
            · rfl
            · exact absurd ⟨f, h1, h, hb⟩ n
          · exact hx f h
      · intro ⟨a, b⟩
        rcases Nat.lt_or_ge i e with h | h
        · exact Or.inl ⟨h, b⟩
        · exact Or.inr (by omega)
theorem ph_yin_b (x acc : Int32) {i : Nat} (hi : i < 32) : ∀ m, m ≤ 24 → (bt (ph_yin x acc m) i = true ↔ bt acc i = true ∨ ∃ f, i ≤ f ∧ f < m ∧ bt x f = true) := by
  intro m
  induction m with
  | zero =>
    intro _
    rw [ph_yin]
    constructor
    · exact Or.inl
    · intro h
      rcases h with h | ⟨f, a, b, c⟩
      · exact h
      · omega
  | succ k ih =>
    intro hm
    have ih := ih (by omega)
    have hb := ph_bit x k (by omega)
    by_cases z : (x >>> (nI k &&& 31)) &&& 1 = 1
    · have hk := hb.mp z
      rw [ph_yin, if_pos z, b_or, Bool.or_eq_true, ih, ph_2l k (by omega) i hi, decide_eq_true_eq]
      constructor
      · intro h
        rcases h with (h | ⟨f, a, b, c⟩) | h
        · exact Or.inl h
        · exact Or.inr ⟨f, a, by omega, c⟩
        · exact Or.inr ⟨k, h, by omega, hk⟩
      · intro h
        rcases h with h | ⟨f, a, b, c⟩
        · exact Or.inl (Or.inl h)
        · exact Or.inr (by omega)
    · have hk : ¬ bt x k = true := fun h => z (hb.mpr h)
      rw [ph_yin, if_neg z, ih]
      constructor
      · intro h
        rcases h with h | ⟨f, a, b, c⟩
        · exact Or.inl h
        · exact Or.inr ⟨f, a, by omega, c⟩
      · intro h
        rcases h with h | ⟨f, a, b, c⟩
        · exact Or.inl h
        · refine Or.inr ⟨f, a, ?_, c⟩
          rcases Nat.lt_or_ge f k with h | h
          · exact h
          · have e : f = k := by omega
            subst e; exact absurd c hk
theorem ph_yin_fill (x acc : Int32) (hx : ph_lo x) : ph_yin x acc 24 = acc ||| ph_fill x 24 := by
  apply b_ext
  intro i hi
  rw [Bool.eq_iff_iff, ph_yin_b x acc hi 24 (by omega), b_or, Bool.or_eq_true, ph_fill_b x hx hi 24 (by omega)]
  constructor
  · intro h
    rcases h with h | ⟨f, a, b, c⟩
    · exact Or.inl h
    · exact Or.inr ⟨by omega, f, a, b, c⟩
  · intro h
    rcases h with h | ⟨_, f, a, b, c⟩
    · exact Or.inl h
    · exact Or.inr ⟨f, a, b, c⟩
theorem ph_yw_reach (r : Nat → Int32) : ∀ m, (∀ c, c < m → ph_lo (r c)) → ph_yw r m = ph_reach r m := by
  intro m
  induction m with
  | zero => intro _; rfl
  | succ c ih =>
    intro h
    rw [ph_yw, ph_reach, ph_yin_fill _ _ (h c (by omega)), ih (fun j hj => h j (by omega))]
theorem ph_lo0 : ph_lo 0 := fun f _ => b_0 f
theorem ph_loOr {x y : Int32} (hx : ph_lo x) (hy : ph_lo y) : ph_lo (x ||| y) := fun f h => by rw [b_or, hx f h, hy f h]; rfl
theorem ph_loAnd {x y : Int32} (hx : ph_lo x) : ph_lo (x &&& y) := fun f h => by rw [b_and, hx f h]; rfl
theorem ph_lo1 {e : Nat} (he : e < 24) : ph_lo ((1 : Int32) <<< (nI e &&& 31)) := fun f h => by
  rcases Nat.lt_or_ge f 32 with g | g
  · rw [ph_1l e he f g, decide_eq_false (by omega)]
  · exact b_big g
theorem ph_loThen (x : Int32) (r : Nat → Int32) (k : Nat) : ∀ m, (∀ e, e < m → ph_lo (r (e + k))) → ph_lo (ph_then x r k m) := by
  intro m
  induction m with
  | zero => intro _; exact ph_lo0
  | succ e ih =>
    intro h
    have i := ih (fun j hj => h j (by omega))
    rw [ph_then]
    split
    · exact ph_loOr i (h e (by omega))
    · exact i
end
section
/-! ===== the small methods ===== -/
theorem ph_xd0 {post : Int32 → Prop} {v : Int32} (h : v < 0 ∨ nI 6 ≤ v) (p : post 0) : wpX_isDocument post v := by
  unfold wpX_isDocument
  exact br_c (fun _ => p) (fun z => br_t (h.resolve_left z) p)
theorem ph_xd1 {post : Int32 → Prop} {j : Nat} (h : j < 6) (p : post 1) : wpX_isDocument post (nI j) := by
  unfold wpX_isDocument
  exact br_f (nI_pos (by omega)) (br_f (nI_ge (b := 6) h (by decide)) p)
theorem ph_yd0 {post : Int32 → Prop} {u : SY} {v : Int32} (h : v < 0 ∨ nI 6 ≤ v) (p : post 0) : wpY_document post u v := by
  obtain ⟨a, b, c, d, e, f, g⟩ := u
  unfold wpY_document
  dsimp only
  refine br_c (fun _ => p) (fun z => ?_)
  obtain ⟨j, hj, rfl⟩ := nI_of z
  have h6 := (nI_leI (by omega) hj).mp (h.resolve_left z)
  exact br_t (nI_lt (a := 5) (by omega) hj) p
theorem ph_yd1 {post : Int32 → Prop} {u : SY} {j : Nat} (h : j < 6) (p : post 1) : wpY_document post u (nI j) := by
  obtain ⟨a, b, c, d, e, f, g⟩ := u
  unfold wpY_document
  dsimp only
  exact br_f (nI_pos (by omega)) (pk_lt 5 j (fun z => absurd z (by omega)) (fun _ => p))
theorem ph_xw0 {post : Int32 → Prop} {v : Int32} (h : v < 0 ∨ nI 12 ≤ v) (p : post 0) : wpX_isWord post v := by
  unfold wpX_isWord
  exact br_c (fun _ => p) (fun z => br_t (h.resolve_left z) p)
theorem ph_xw1 {post : Int32 → Prop} {j : Nat} (h : j < 12) (p : post 1) : wpX_isWord post (nI j) := by
  unfold wpX_isWord
  exact br_f (nI_pos (by omega)) (br_f (nI_ge (b := 12) h (by decide)) p)
theorem ph_xs0 {post : Int32 → Prop} {v : Int32} (h : v < 0 ∨ nI 19 ≤ v) (p : post 0) : wpX_isSpanToken post v := by
  unfold wpX_isSpanToken
  refine br_c (fun _ => p) (fun z => ?_)
  obtain ⟨j, hj, rfl⟩ := nI_of z
  have h6 := (nI_leI (by omega) hj).mp (h.resolve_left z)
  exact br_t (nI_lt (a := 18) (by omega) hj) p
theorem ph_xs1 {post : Int32 → Prop} {j : Nat} (h : j < 19) (p : post 1) : wpX_isSpanToken post (nI j) := by
  unfold wpX_isSpanToken
  exact br_f (nI_pos (by omega)) (pk_lt 18 j (fun z => absurd z (by omega)) (fun _ => p))
/-- an index into a table of rows of 24 -/
theorem ph_ix (i b : Nat) : nI i * 24 + nI b = nI (24 * i + b) := by
  rw [show (24 : Int32) = nI 24 from rfl, pk_mul, nI_add, Nat.mul_comm]
theorem ph_iy (i b : Nat) : 24 * nI i + nI b = nI (24 * i + b) := by
  rw [show (24 : Int32) = nI 24 from rfl, pk_mul, nI_add]
/-! ===== write, change, erase, length ===== -/
theorem ph_R_w {n : Nat} {wd ln q : Nat → Int32} (h : ph_R n wd ln q) {d l w : Nat} (hd : d < 6) (e : ln d = nI l) (hl : l < 24) (hw : w < 12) :
    ph_R n (upd wd (24 * d + l) (nI w)) (upd ln d (nI (l + 1))) q := by
  obtain ⟨h1, h2, h3⟩ := h
  refine ⟨h1, h2, fun d' hd' => ?_⟩
  obtain ⟨l', hl', e', h'⟩ := h3 d' hd'
  by_cases z : d' = d
  · subst z
    have el : l' = l := (nI_eq (by omega) (by omega)).mp (e'.symm.trans e)
    subst el
    refine ⟨l' + 1, by omega, pk_us, fun p hp => ?_⟩
    by_cases y : p = l'
    · subst y; exact ⟨w, by omega, pk_us⟩
    · obtain ⟨x, hx, ex⟩ := h' p (by omega)
      exact ⟨x, hx, by rw [pk_un (by omega)]; exact ex⟩
  · refine ⟨l', hl', by rw [pk_un z]; exact e', fun p hp => ?_⟩
    obtain ⟨x, hx, ex⟩ := h' p hp
    exact ⟨x, hx, by rw [pk_un (by omega)]; exact ex⟩
theorem ph_R_c {n : Nat} {wd ln q : Nat → Int32} (h : ph_R n wd ln q) {d p w : Nat} (hd : d < 6) (hp : p < 24) (hw : w < 12) :
    ph_R n (upd wd (24 * d + p) (nI w)) ln q := by
  obtain ⟨h1, h2, h3⟩ := h
  refine ⟨h1, h2, fun d' hd' => ?_⟩
  obtain ⟨l', hl', e', h'⟩ := h3 d' hd'
  refine ⟨l', hl', e', fun p' hp' => ?_⟩
  by_cases z : 24 * d' + p' = 24 * d + p
  · rw [z]; exact ⟨w, by omega, pk_us⟩
  · obtain ⟨x, hx, ex⟩ := h' p' hp'
    exact ⟨x, hx, by rw [pk_un z]; exact ex⟩
theorem ph_R_e {n : Nat} {wd ln q : Nat → Int32} (h : ph_R n wd ln q) {d : Nat} : ph_R n wd (upd ln d (nI 0)) q := by
  obtain ⟨h1, h2, h3⟩ := h
  refine ⟨h1, h2, fun d' hd' => ?_⟩
  obtain ⟨l', hl', e', h'⟩ := h3 d' hd'
  by_cases z : d' = d
  · subst z; exact ⟨0, by omega, pk_us, fun p hp => by omega⟩
  · exact ⟨l', hl', by rw [pk_un z]; exact e', h'⟩
theorem i_vc_write {k : Nat} {u : SX} {v : SY} (I : i_Rel k u v) (hk : k + 4 ≤ 2048) (v1 : Int32) (v2 : Int32) : wpX_write (fun r u' => wpY_write (fun r' v' => r' = r ∧ i_Rel (k + 4) u' v') v v1 v2) u v1 v2 := by
  obtain ⟨n, wd, ln, q, np, tr, eb, rw, sk, pl, rfl, rfl, R⟩ := I
  have T : ∀ {v1 : Int32}, (v1 < 0 ∨ nI 6 ≤ v1) ∨ ∃ j, j < 6 ∧ v1 = nI j := fun {v1} => by
    rcases pk_ix v1 (n := 6) (by omega) with h | h | h
    · exact Or.inl (Or.inl h)
    · exact Or.inl (Or.inr h)
    · exact Or.inr h
  unfold wpX_write
  dsimp only
  rcases T (v1 := v1) with h | ⟨d, hd, rfl⟩
  · refine ph_xd0 h (br_t rfl ?_)
    unfold wpY_write
    dsimp only
    exact ph_yd0 h (br_t rfl ⟨rfl, ph_mk R⟩)
  · refine ph_xd1 hd (br_f (by decide) ?_)
    rcases pk_ix v2 (n := 12) (by omega) with h | h | ⟨w, hw, rfl⟩
    · refine ph_xw0 (Or.inl h) (br_t rfl ?_)
      unfold wpY_write
      dsimp only
      exact ph_yd1 hd (br_f (by decide) (br_t h ⟨rfl, ph_mk R⟩))
    · refine ph_xw0 (Or.inr h) (br_t rfl ?_)
      unfold wpY_write
      dsimp only
      refine ph_yd1 hd (br_f (by decide) ?_)
      refine br_c (fun _ => ⟨rfl, ph_mk R⟩) (fun z => ?_)
      obtain ⟨j, hj, rfl⟩ := nI_of z
      have h6 := (nI_leI (by omega) hj).mp h
      exact pk_le j 11 (fun z => absurd z (by omega)) (fun _ => ⟨rfl, ph_mk R⟩)
    · obtain ⟨l, hl, el, _⟩ := R.2.2 d hd
      refine ph_xw1 hw (br_f (by decide) ⟨vp_in_nI hd (by decide), ?_⟩)
      rw [nI_clamp (n := d) (by omega), el]
      refine nm_e ?_
      refine pk_lt l 24 (fun hl => ?_) (fun hl => ?_)
      · rw [ph_ix, nI_clamp (n := 24 * d + l) (by omega)]
        refine ⟨vp_in_nI (by omega) (by decide), nm_e ⟨vp_in_nI hd (by decide), nm_e ?_⟩⟩
        rw [nI_1]
        unfold wpY_write
        dsimp only
        refine ph_yd1 hd (br_f (by decide) (br_f (nI_pos (by omega)) (pk_le w 11 (fun _ => ?_) (fun z => absurd z (by omega)))))
        rw [nI_clamp (n := d) (by omega), el, ph_iy, nI_clamp (n := 24 * d + l) (by omega)]
        refine ⟨vp_in_nI hd (by decide), pk_lt l 24 (fun _ => ?_) (fun z => absurd z (by omega))⟩
        refine ⟨vp_in_nI hd (by decide), vp_in_nI (by omega) (by decide), nm_e ⟨vp_in_nI hd (by decide), vp_in_nI hd (by decide), nm_e ⟨vp_in_nI hd (by decide), ?_⟩⟩⟩
        rw [pk_us, nI_1, nI_pred]
        exact ⟨rfl, ph_mk (ph_R_w R hd el hl hw)⟩
      · unfold wpY_write
        dsimp only
        refine ph_yd1 hd (br_f (by decide) (br_f (nI_pos (by omega)) (pk_le w 11 (fun _ => ?_) (fun z => absurd z (by omega)))))
        rw [nI_clamp (n := d) (by omega), el]
        exact ⟨vp_in_nI hd (by decide), pk_lt l 24 (fun z => absurd z (by omega)) (fun _ => ⟨rfl, ph_mk R⟩)⟩
theorem i_vc_change {k : Nat} {u : SX} {v : SY} (I : i_Rel k u v) (hk : k + 4 ≤ 2048) (v1 : Int32) (v2 : Int32) (v3 : Int32) : wpX_change (fun r u' => wpY_change (fun r' v' => r' = r ∧ i_Rel (k + 4) u' v') v v1 v2 v3) u v1 v2 v3 := by
  obtain ⟨n, wd, ln, q, np, tr, eb, rw, sk, pl, rfl, rfl, R⟩ := I
  unfold wpX_change
  dsimp only
  rcases pk_ix v1 (n := 6) (by omega) with h | h | ⟨d, hd, rfl⟩
  · refine ph_xd0 (Or.inl h) (br_t rfl ?_)
    unfold wpY_change
    dsimp only
    exact ph_yd0 (Or.inl h) (br_t rfl ⟨rfl, ph_mk R⟩)
  · refine ph_xd0 (Or.inr h) (br_t rfl ?_)
    unfold wpY_change
    dsimp only
    exact ph_yd0 (Or.inr h) (br_t rfl ⟨rfl, ph_mk R⟩)
  · obtain ⟨l, hl, el, _⟩ := R.2.2 d hd
    refine ph_xd1 hd (br_f (by decide) ?_)
    rcases pk_ix v3 (n := 12) (by omega) with h | h | ⟨w, hw, rfl⟩
    · refine ph_xw0 (Or.inl h) (br_t rfl ?_)
      unfold wpY_change
      dsimp only
      refine ph_yd1 hd (br_f (by decide) (br_c (fun _ => ⟨rfl, ph_mk R⟩) (fun _ => ⟨vp_in_nI hd (by decide), br_c (fun _ => ⟨rfl, ph_mk R⟩) (fun _ => br_t h ⟨rfl, ph_mk R⟩)⟩)))
    · refine ph_xw0 (Or.inr h) (br_t rfl ?_)
      unfold wpY_change
      dsimp only
      refine ph_yd1 hd (br_f (by decide) (br_c (fun _ => ⟨rfl, ph_mk R⟩) (fun _ => ⟨vp_in_nI hd (by decide), br_c (fun _ => ⟨rfl, ph_mk R⟩) (fun _ => br_c (fun _ => ⟨rfl, ph_mk R⟩) (fun z => ?_))⟩)))
      obtain ⟨j, hj, rfl⟩ := nI_of z
      have h6 := (nI_leI (by omega) hj).mp h
      exact pk_le j 11 (fun z => absurd z (by omega)) (fun _ => ⟨rfl, ph_mk R⟩)
    · refine ph_xw1 hw (br_f (by decide) ?_)
      refine br_c (fun z => ?_) (fun z => ?_)
      · unfold wpY_change
        dsimp only
        exact ph_yd1 hd (br_f (by decide) (br_t z ⟨rfl, ph_mk R⟩))
      · obtain ⟨p, hp, rfl⟩ := nI_of z
        refine ⟨vp_in_nI hd (by decide), ?_⟩
        rw [nI_clamp (n := d) (by omega), el, ph_ix]
        refine pk_lt p l (fun hpl => ?_) (fun hpl => ?_)
        · rw [nI_clamp (n := 24 * d + p) (by omega)]
          refine ⟨vp_in_nI (by omega) (by decide), nm_e ?_⟩
          unfold wpY_change
          dsimp only
          refine ph_yd1 hd (br_f (by decide) (br_f z ?_))
          rw [nI_clamp (n := d) (by omega), el, ph_iy, nI_clamp (n := 24 * d + p) (by omega)]
          refine ⟨vp_in_nI hd (by decide), pk_le l p (fun z => absurd z (by omega)) (fun _ => br_f (nI_pos (by omega)) (pk_le w 11 (fun _ => ?_) (fun z => absurd z (by omega))))⟩
          exact ⟨vp_in_nI (by omega) (by decide), nm_e ⟨rfl, ph_mk (ph_R_c R hd (by omega) hw)⟩⟩
        · unfold wpY_change
          dsimp only
          refine ph_yd1 hd (br_f (by decide) (br_f z ?_))
          rw [nI_clamp (n := d) (by omega), el]
          exact ⟨vp_in_nI hd (by decide), pk_le l p (fun _ => ⟨rfl, ph_mk R⟩) (fun z => absurd z (by omega))⟩
theorem i_vc_erase {k : Nat} {u : SX} {v : SY} (I : i_Rel k u v) (hk : k + 4 ≤ 2048) (v1 : Int32) : wpX_erase (fun r u' => wpY_erase (fun r' v' => r' = r ∧ i_Rel (k + 4) u' v') v v1) u v1 := by
  obtain ⟨n, wd, ln, q, np, tr, eb, rw, sk, pl, rfl, rfl, R⟩ := I
  unfold wpX_erase
  dsimp only
  rcases pk_ix v1 (n := 6) (by omega) with h | h | ⟨d, hd, rfl⟩
  · refine ph_xd0 (Or.inl h) (br_t rfl ?_)
    unfold wpY_erase
    dsimp only
    exact ph_yd0 (Or.inl h) (br_t rfl ⟨rfl, ph_mk R⟩)
  · refine ph_xd0 (Or.inr h) (br_t rfl ?_)
    unfold wpY_erase
    dsimp only
    exact ph_yd0 (Or.inr h) (br_t rfl ⟨rfl, ph_mk R⟩)
  · refine ph_xd1 hd (br_f (by decide) ⟨vp_in_nI hd (by decide), nm_e ?_⟩)
    unfold wpY_erase
    dsimp only
    refine ph_yd1 hd (br_f (by decide) ⟨vp_in_nI hd (by decide), nm_e ?_⟩)
    exact ⟨rfl, ph_mk (ph_R_e R)⟩
theorem i_vc_length {k : Nat} {u : SX} {v : SY} (I : i_Rel k u v) (hk : k + 4 ≤ 2048) (v1 : Int32) : wpX_length (fun r => wpY_length (fun r' => r' = r ∧ i_Rel (k + 4) u v) v v1) u v1 := by
  obtain ⟨n, wd, ln, q, np, tr, eb, rw, sk, pl, rfl, rfl, R⟩ := I
  unfold wpX_length
  dsimp only
  rcases pk_ix v1 (n := 6) (by omega) with h | h | ⟨d, hd, rfl⟩
  · refine ph_xd0 (Or.inl h) (br_t rfl ?_)
    unfold wpY_length
    dsimp only
    exact ph_yd0 (Or.inl h) (br_t rfl ⟨rfl, ph_mk R⟩)
  · refine ph_xd0 (Or.inr h) (br_t rfl ?_)
    unfold wpY_length
    dsimp only
    exact ph_yd0 (Or.inr h) (br_t rfl ⟨rfl, ph_mk R⟩)
  · refine ph_xd1 hd (br_f (by decide) ⟨vp_in_nI hd (by decide), ?_⟩)
    unfold wpY_length
    dsimp only
    exact ph_yd1 hd (br_f (by decide) ⟨vp_in_nI hd (by decide), rfl, ph_mk R⟩)
end
section
/-! ===== due, ask, unask, complete ===== -/
theorem ph_py {post : Int32 → Prop} {u : SY} {t : Nat} (ht : t < 100) (p : post (nI (ph_par t))) : wpY_parts post u (nI t) := by
  obtain ⟨a, b, c, d, e, f, g⟩ := u
  unfold wpY_parts
  dsimp only
  refine pk_lt 11 t (fun h => pk_lt t 22 (fun h2 => ?_) (fun h2 => ?_)) (fun h => ?_)
  · rw [ph_par_2 (by omega) (by omega)] at p; exact p
  · rw [ph_par_1 h2] at p; exact p
  · rw [ph_par_0 h] at p; exact p
theorem ph_par_le (t : Nat) : ph_par t ≤ 2 := by
  unfold ph_par
  split
  · omega
  · split <;> omega
def ph_pf (c : Int32) : Nat → Nat → (Nat → Int32) → (Nat → Int32)
  | 0, _, pl => pl
  | r + 1, x, pl => ph_pf c r (x + 1) (upd pl x c)
theorem ph_pf_at (c : Int32) (j : Nat) : ∀ r x (pl : Nat → Int32), ph_pf c r x pl j = if x ≤ j ∧ j < x + r then c else pl j := by
  intro r
  induction r with
  | zero => intro x pl; rw [if_neg (by omega)]; rfl
  | succ r ih =>
    intro x pl
    show ph_pf c r (x + 1) (upd pl x c) j = _
    rw [ih]
    by_cases h : j = x
    · subst h; rw [if_neg (by omega), if_pos (by omega), pk_us]
    · rw [pk_un h]
      by_cases h2 : x + 1 ≤ j ∧ j < x + 1 + r
      · rw [if_pos h2, if_pos (by omega)]
      · rw [if_neg h2, if_neg (by omega)]
def ph_val (t : Nat) : Int32 := if t < 20 ∨ 22 < t then 2 else 1
theorem ph_d40 {post : Int32 → SY → Prop} {J : Int32 → Int32 → (Nat → Int32) → (Nat → Int32) → (Nat → Int32) → (Nat → Int32) → (Nat → Int32) → (Nat → Int32) → Prop} {k p t : Nat} {f : Int32} {sz wd q rw sk : Nat → Int32} (hq : q k = nI t) (hk : k < 12) (ht : t < 100) (hp : p < 100) :
    ∀ r i x (pl : Nat → Int32), i + r = p → x + r ≤ 24 → J (nI (x + r)) (nI (k + 1)) sz wd q rw sk (ph_pf (ph_val t) r x pl) → wY_due_40 post J (nI k) (nI p) f (r + 1) (nI x) (nI i) sz wd q rw sk pl := by
  intro r
  induction r with
  | zero =>
    intro i x pl hi hx h
    rw [wY_due_40]
    exact pk_le p i (fun _ => nm_r (nI_1 k) h) (fun z => absurd z (by omega))
  | succ r ih =>
    intro i x pl hi hx h
    rw [wY_due_40]
    dsimp only
    rw [nI_clamp (n := k) (by omega), nI_clamp (n := x) (by omega), hq]
    have hn := ih (i + 1) (x + 1) (upd pl x (ph_val t)) (by omega) (by omega) (by rw [show x + 1 + r = x + (r + 1) by omega]; exact h)
    refine pk_le p i (fun z => absurd z (by omega)) (fun _ => ⟨vp_in_nI hk (by decide), pk_lt t 20 (fun h => ?_) (fun h => ⟨vp_in_nI hk (by decide), pk_lt 22 t (fun h2 => ?_) (fun h2 => ?_)⟩)⟩)
    · refine ⟨vp_in_nI (by omega) (by decide), nm_e (nm_r (nI_1 x) (nm_r (nI_1 i) ?_))⟩
      rw [show ph_val t = 2 from if_pos (Or.inl h)] at hn
      exact hn
    · refine ⟨vp_in_nI (by omega) (by decide), nm_e (nm_r (nI_1 x) (nm_r (nI_1 i) ?_))⟩
      rw [show ph_val t = 2 from if_pos (Or.inr h2)] at hn
      exact hn
    · refine ⟨vp_in_nI (by omega) (by decide), nm_e (nm_r (nI_1 x) (nm_r (nI_1 i) ?_))⟩
      rw [show ph_val t = 1 from if_neg (by omega)] at hn
      exact hn
/-- the places hold first the conditions due, then the spans due -/
def ph_PL (p : Nat × Nat) (pl : Nat → Int32) : Prop := (∀ j, j < p.2 → pl j = 1) ∧ (∀ j, p.2 ≤ j → j < p.1 + p.2 → pl j = 2)
def ph_kd (p : Nat × Nat) : Int32 := if p.1 + p.2 = 0 then 0 else if 0 < p.1 then 2 else 1
theorem ph_PL_s {q : Nat → Int32} {k m : Nat} {pl : Nat → Int32} (ok : ph_ok q k) (hm : (ph_c q k).1 + (ph_c q k).2 = m + 1) (h : ph_PL (ph_c q k) pl) :
    (ph_c q (k + 1)).1 + (ph_c q (k + 1)).2 = m + ph_par (ph_t q k) ∧ ph_PL (ph_c q (k + 1)) (ph_pf (ph_val (ph_t q k)) (ph_par (ph_t q k)) m pl) := by
  obtain ⟨h1, h2⟩ := h
  have K := ph_kinds ok
  generalize ph_c q (k + 1) = p' at K ⊢
  generalize ph_c q k = p at K hm h1 h2 ⊢
  generalize ph_t q k = t at K ⊢
  have V : (ph_val t = 2 ∧ (t < 20 ∨ 22 < t)) ∨ (ph_val t = 1 ∧ ¬ (t < 20 ∨ 22 < t)) := by
    by_cases z : t < 20 ∨ 22 < t
    · exact Or.inl ⟨if_pos z, z⟩
    · exact Or.inr ⟨if_neg z, z⟩
  refine ⟨by omega, fun j hj => ?_, fun j hj hj2 => ?_⟩
  · rw [ph_pf_at]
    split
    · rcases V with ⟨v, z⟩ | ⟨v, z⟩
      · omega
      · exact v
    · exact h1 j (by omega)
  · rw [ph_pf_at]
    split
    · rcases V with ⟨v, z⟩ | ⟨v, z⟩
      · exact v
      · omega
    · exact h2 j (by omega) (by omega)
theorem ph_d11 {post : Int32 → SY → Prop} {n : Nat} {sz wd q rw sk : Nat → Int32} (hn : n ≤ 12) (ok : ∀ i, i < n → ph_ok q i)
    (H : ∀ pl', post (ph_kd (ph_c q n)) (nI n, sz, wd, q, rw, sk, pl')) :
    ∀ r k (pl : Nat → Int32), k + r = n → ph_PL (ph_c q k) pl → wY_due_11 post (nI n) (r + 1) (nI ((ph_c q k).1 + (ph_c q k).2)) (nI k) sz wd q rw sk pl := by
  intro r
  induction r with
  | zero =>
    intro k pl hk h
    have e : k = n := by omega
    subst e
    have B := ph_c_le q k
    rw [wY_due_11]
    refine pk_le k k (fun _ => ?_) (fun z => absurd z (by omega))
    unfold wY_due_94
    have H' := H pl
    obtain ⟨h1, h2⟩ := h
    generalize ph_c q k = p at *
    refine pk_eq (p.1 + p.2) 0 (fun z => ?_) (fun z => ?_)
    · rw [show ph_kd p = 0 from if_pos z] at H'; exact H'
    · obtain ⟨m, hm⟩ : ∃ m, p.1 + p.2 = m + 1 := ⟨p.1 + p.2 - 1, by omega⟩
      rw [hm, nI_pred, nI_clamp (n := m) (by omega)]
      refine ⟨vp_in_nI (by omega) (by decide), ?_⟩
      have e : ph_kd p = pl m := by
        unfold ph_kd
        rw [if_neg z]
        split
        · exact (h2 m (by omega) (by omega)).symm
        · exact (h1 m (by omega)).symm
      rw [← e]; exact H'
  | succ r ih =>
    intro k pl hk h
    have B := ph_c_le q k
    have o := ok k (by omega)
    have P := ph_ok_pos o
    have L := ph_ok_le o
    obtain ⟨m, hm⟩ : ∃ m, (ph_c q k).1 + (ph_c q k).2 = m + 1 := ⟨(ph_c q k).1 + (ph_c q k).2 - 1, by omega⟩
    obtain ⟨e, h'⟩ := ph_PL_s o hm h
    rw [wY_due_11]
    dsimp only
    rw [hm, nI_clamp (n := k) (by omega), o.1]
    refine pk_le n k (fun z => absurd z (by omega)) (fun _ => pk_le (m + 1) 0 (fun z => absurd z (by omega)) (fun _ => nm_r (pk_m1 m) ⟨vp_in_nI (by omega) (by decide), ?_⟩))
    have i := ih (k + 1) _ (by omega) h'
    rw [e] at i
    have Q := ph_par_le (ph_t q k)
    exact ph_py (by omega) ⟨_, ph_d40 o.1 (by omega) (by omega) (by omega) (ph_par (ph_t q k)) 0 m pl (by omega) (by omega) i⟩
theorem ph_due {post : Int32 → SY → Prop} {n : Nat} {sz wd q rw sk pl : Nat → Int32} (hn : n ≤ 12) (ok : ∀ i, i < n → ph_ok q i)
    (H : ∀ pl', post (ph_kd (ph_c q n)) (nI n, sz, wd, q, rw, sk, pl')) : wpY_due post (nI n, sz, wd, q, rw, sk, pl) := by
  unfold wpY_due
  dsimp only
  refine nm_e ⟨n + 1, ?_⟩
  exact ph_d11 hn ok H n 0 _ (by omega) ⟨fun j hj => by
    have e : j = 0 := by have : (ph_c q 0).2 = 1 := rfl
                         omega
    subst e; exact pk_us, fun j hj hj2 => by
    have : (ph_c q 0).2 = 1 := rfl
    have : (ph_c q 0).1 = 0 := rfl
    omega⟩
/-- complete: 1 or 0 -/
def ph_cp (p : Nat × Nat) : Int32 := if p.1 + p.2 = 0 then 1 else 0
theorem ph_xc {post : Int32 → Prop} {p : Nat × Nat} {a : Int32} {wd ln q np tr eb : Nat → Int32} (h1 : p.1 + p.2 < 100) (h : post (ph_cp p)) : wpX_complete post (a, nI p.1, nI p.2, wd, ln, q, np, tr, eb) := by
  unfold wpX_complete
  dsimp only
  unfold ph_cp at h
  refine pk_eq p.1 0 (fun z => pk_eq p.2 0 (fun y => ?_) (fun y => ?_)) (fun z => ?_)
  · rw [if_pos (by omega)] at h; exact h
  · rw [if_neg (by omega)] at h; exact h
  · rw [if_neg (by omega)] at h; exact h
theorem ph_yc {post : Int32 → SY → Prop} {n : Nat} {sz wd q rw sk pl : Nat → Int32} (hn : n ≤ 12) (ok : ∀ i, i < n → ph_ok q i)
    (H : ∀ pl', post (ph_cp (ph_c q n)) (nI n, sz, wd, q, rw, sk, pl')) : wpY_complete post (nI n, sz, wd, q, rw, sk, pl) := by
  unfold wpY_complete
  dsimp only
  refine ph_due hn ok (fun pl' => ?_)
  have h := H pl'
  dsimp only
  unfold ph_cp at h
  unfold ph_kd
  by_cases z : (ph_c q n).1 + (ph_c q n).2 = 0
  · rw [if_pos z] at h
    rw [if_pos z]
    exact br_t rfl h
  · rw [if_neg z] at h
    rw [if_neg z]
    split
    · exact br_f (by decide) h
    · exact br_f (by decide) h
theorem i_vc_complete {k : Nat} {u : SX} {v : SY} (I : i_Rel k u v) (hk : k + 4 ≤ 2048) : wpX_complete (fun r => wpY_complete (fun r' v' => r' = r ∧ i_Rel (k + 4) u v') v) u := by
  obtain ⟨n, wd, ln, q, np, tr, eb, rw, sk, pl, rfl, rfl, R⟩ := I
  have B := ph_c_le q n
  have hn := R.1
  exact ph_xc (by omega) (ph_yc R.1 R.2.1 (fun pl' => ⟨rfl, ph_mk R⟩))
theorem ph_subm (x : Int32) : x - (-1) = x + 1 := by rw [Int32.sub_eq_add_neg]; rfl
/-- a token comes: the counts go on -/
theorem ph_cd1 {post : SX → Prop} {p : Nat × Nat} {t : Nat} {a : Int32} {wd ln q np tr eb : Nat → Int32} (hp : p.1 + p.2 < 100) (ht : (0 < p.1 ∧ t ≤ 18) ∨ (p.1 = 0 ∧ 0 < p.2 ∧ 20 ≤ t ∧ t ≤ 23))
    (h : post (a, nI (ph_cs t p).1, nI (ph_cs t p).2, wd, ln, q, np, tr, eb)) : wpX_countDue post (a, nI p.1, nI p.2, wd, ln, q, np, tr, eb) (nI t) 1 := by
  unfold wpX_countDue
  dsimp only
  unfold ph_cs at h
  by_cases h1 : t ≤ 11
  · rw [if_pos h1] at h
    obtain ⟨m, hm⟩ : ∃ m, p.1 = m + 1 := ⟨p.1 - 1, by omega⟩
    refine ph_xw1 (by omega) (br_f (by decide) ?_)
    dsimp only at h
    rw [hm, Nat.add_sub_cancel] at h
    rw [hm]
    exact nm_r (nI_pred m) h
  · refine ph_xw0 (Or.inr (nI_le (by omega) (by omega))) (br_t rfl ?_)
    rw [if_neg h1] at h
    by_cases h2 : t ≤ 18
    · rw [if_pos h2] at h
      exact ph_xs1 (by omega) (br_f (by decide) (nm_r (nI_1 _) h))
    · rw [if_neg h2] at h
      refine ph_xs0 (Or.inr (nI_le (by omega) (by omega))) (br_t rfl ?_)
      refine pk_eq t 23 (fun h3 => ?_) (fun h3 => pk_eq t 22 (fun h4 => ?_) (fun h4 => ?_))
      · rw [if_pos h3] at h
        obtain ⟨m, hm⟩ : ∃ m, p.2 = m + 1 := ⟨p.2 - 1, by omega⟩
        dsimp only at h
        rw [hm, Nat.add_sub_cancel] at h
        rw [hm]
        exact nm_r (nI_pred m) (nm_r (nI_1 _) h)
      · rw [if_neg h3, if_pos h4] at h
        exact h
      · rw [if_neg h3, if_neg h4] at h
        exact nm_r (nI_1 _) h
/-- a token goes: the counts go back -/
theorem ph_cdm {post : SX → Prop} {p : Nat × Nat} {t : Nat} {a : Int32} {wd ln q np tr eb : Nat → Int32} (hp : p.1 + p.2 < 100) (ht : (0 < p.1 ∧ t ≤ 18) ∨ (p.1 = 0 ∧ 0 < p.2 ∧ 20 ≤ t ∧ t ≤ 23))
    (h : post (a, nI p.1, nI p.2, wd, ln, q, np, tr, eb)) : wpX_countDue post (a, nI (ph_cs t p).1, nI (ph_cs t p).2, wd, ln, q, np, tr, eb) (nI t) (-1) := by
  unfold wpX_countDue
  dsimp only
  unfold ph_cs
  by_cases h1 : t ≤ 11
  · rw [if_pos h1]
    obtain ⟨m, hm⟩ : ∃ m, p.1 = m + 1 := ⟨p.1 - 1, by omega⟩
    refine ph_xw1 (by omega) (br_f (by decide) ?_)
    dsimp only
    rw [hm] at h
    rw [hm, Nat.add_sub_cancel, ph_subm]
    exact nm_r (nI_1 m) h
  · refine ph_xw0 (Or.inr (nI_le (by omega) (by omega))) (br_t rfl ?_)
    rw [if_neg h1]
    by_cases h2 : t ≤ 18
    · rw [if_pos h2]
      exact ph_xs1 (by omega) (br_f (by decide) (nm_r (pk_m1 _) h))
    · rw [if_neg h2]
      refine ph_xs0 (Or.inr (nI_le (by omega) (by omega))) (br_t rfl ?_)
      refine pk_eq t 23 (fun h3 => ?_) (fun h3 => pk_eq t 22 (fun h4 => ?_) (fun h4 => ?_))
      · rw [if_pos h3]
        obtain ⟨m, hm⟩ : ∃ m, p.2 = m + 1 := ⟨p.2 - 1, by omega⟩
        dsimp only
        rw [hm] at h
        rw [hm, Nat.add_sub_cancel, ph_subm]
        exact nm_r (nI_1 m) (nm_r (pk_m1 _) h)
      · rw [if_neg h3, if_pos h4]
        exact h
      · rw [if_neg h3, if_neg h4]
        exact nm_r (pk_m1 _) h
theorem i_vc_unask {k : Nat} {u : SX} {v : SY} (I : i_Rel k u v) (hk : k + 4 ≤ 2048) : wpX_unask (fun r u' => wpY_unask (fun r' v' => r' = r ∧ i_Rel (k + 4) u' v') v) u := by
  obtain ⟨n, wd, ln, q, np, tr, eb, rw, sk, pl, rfl, rfl, R⟩ := I
  have hn := R.1
  unfold wpX_unask
  dsimp only
  refine pk_lt 0 n (fun h => ?_) (fun h => ?_)
  · obtain ⟨m, rfl⟩ : ∃ m, n = m + 1 := ⟨n - 1, by omega⟩
    have o := R.2.1 m (by omega)
    have B := ph_c_le q m
    refine nm_r (nI_pred m) ⟨vp_in_nI (by omega) (by decide), ?_⟩
    rw [nI_clamp (n := m) (by omega), o.1]
    refine nm_e ?_
    rw [ph_c_s]
    refine ph_cdm (by omega) o.2 ?_
    dsimp only
    unfold wpY_unask
    dsimp only
    refine br_f (nI_ne0 (by omega) (by omega)) (nm_r (nI_pred m) ⟨vp_in_nI (by omega) (by decide), ?_⟩)
    rw [nI_clamp (n := m) (by omega), o.1]
    exact ⟨rfl, ph_mk ⟨by omega, fun i hi => R.2.1 i (by omega), R.2.2⟩⟩
  · have e : n = 0 := by omega
    subst e
    unfold wpY_unask
    dsimp only
    exact br_t rfl ⟨rfl, ph_mk R⟩
theorem ph_ya0 {post : Int32 → SY → Prop} {x r f : Int32} {sz wd q rw sk pl : Nat → Int32} (hx : x < 0 ∨ nI 24 ≤ x ∨ x = nI 19) (h : post (-1) (f, sz, wd, q, rw, sk, pl)) :
    ((x < 0 → (wY_ask_35 post x r f sz wd q rw sk pl)) ∧ (¬ x < 0 → (((18 < x → (wY_ask_35 post x r f sz wd q rw sk pl)) ∧ (¬ 18 < x → (wY_ask_36 post x r 1 f sz wd q rw sk pl)))))) := by
  have E : wY_ask_54 post x r 0 0 f sz wd q rw sk pl := br_c (fun _ => br_t rfl h) (fun _ => br_t rfl h)
  refine br_c (fun z => ?_) (fun z => ?_)
  · unfold wY_ask_35 wY_ask_36 wY_ask_53
    exact br_c (fun _ => E) (fun _ => br_c (fun _ => E) (fun y => absurd (Int32.lt_trans z (by decide : (0 : Int32) < 20)) (by assumption)))
  · obtain ⟨j, hj, rfl⟩ := nI_of z
    have hj2 : 24 ≤ j ∨ j = 19 := by
      rcases hx with h | h | h
      · exact absurd h z
      · exact Or.inl ((nI_leI (by omega) hj).mp h)
      · exact Or.inr ((nI_eq hj (by omega)).mp h)
    refine pk_lt 18 j (fun _ => ?_) (fun _ => absurd hj2 (by omega))
    unfold wY_ask_35 wY_ask_36 wY_ask_53
    exact pk_lt j 20 (fun _ => E) (fun _ => pk_lt 23 j (fun _ => E) (fun _ => absurd hj2 (by omega)))
theorem ph_ya1 {post : Int32 → SY → Prop} {t : Nat} {r f : Int32} {sz wd q rw sk pl : Nat → Int32} (ht : t ≤ 18) (h : wY_ask_54 post (nI t) r 1 0 f sz wd q rw sk pl) :
    ((nI t < 0 → (wY_ask_35 post (nI t) r f sz wd q rw sk pl)) ∧ (¬ nI t < 0 → (((18 < nI t → (wY_ask_35 post (nI t) r f sz wd q rw sk pl)) ∧ (¬ 18 < nI t → (wY_ask_36 post (nI t) r 1 f sz wd q rw sk pl)))))) := by
  refine br_f (nI_pos (by omega)) (pk_lt 18 t (fun z => absurd z (by omega)) (fun _ => ?_))
  unfold wY_ask_36 wY_ask_53
  exact pk_lt t 20 (fun _ => h) (fun z => absurd z (by omega))
theorem ph_ya2 {post : Int32 → SY → Prop} {t : Nat} {r f : Int32} {sz wd q rw sk pl : Nat → Int32} (ht : 20 ≤ t) (ht2 : t ≤ 23) (h : wY_ask_54 post (nI t) r 0 1 f sz wd q rw sk pl) :
    ((nI t < 0 → (wY_ask_35 post (nI t) r f sz wd q rw sk pl)) ∧ (¬ nI t < 0 → (((18 < nI t → (wY_ask_35 post (nI t) r f sz wd q rw sk pl)) ∧ (¬ 18 < nI t → (wY_ask_36 post (nI t) r 1 f sz wd q rw sk pl)))))) := by
  refine br_f (nI_pos (by omega)) (pk_lt 18 t (fun _ => ?_) (fun z => absurd z (by omega)))
  unfold wY_ask_35 wY_ask_36 wY_ask_53
  exact pk_lt t 20 (fun z => absurd z (by omega)) (fun _ => pk_lt 23 t (fun z => absurd z (by omega)) (fun _ => h))
theorem ph_R_a {n t : Nat} {wd ln q : Nat → Int32} (R : ph_R n wd ln q) (hn : n < 12) (ht : (0 < (ph_c q n).1 ∧ t ≤ 18) ∨ ((ph_c q n).1 = 0 ∧ 0 < (ph_c q n).2 ∧ 20 ≤ t ∧ t ≤ 23)) :
    ph_c (upd q n (nI t)) (n + 1) = ph_cs t (ph_c q n) ∧ ph_R (n + 1) wd ln (upd q n (nI t)) := by
  have e : ∀ j, j < n → q j = upd q n (nI t) j := fun j hj => (pk_un (by omega)).symm
  have c := ph_c_ext n e
  have et : ph_t (upd q n (nI t)) n = t := ph_t_of pk_us (by omega)
  refine ⟨by rw [ph_c_s, et, ← c], by omega, fun i hi => ?_, R.2.2⟩
  by_cases z : i = n
  · subst z
    unfold ph_ok
    rw [et, ← c]
    exact ⟨pk_us, ht⟩
  · exact ph_ok_ext (fun j hj => e j (by omega)) (R.2.1 i (by omega))
theorem ph_y75 {k n t : Nat} {wd ln q np tr eb rw sk pl : Nat → Int32} (R : ph_R n wd ln q) (hn : n < 12) (ht : (0 < (ph_c q n).1 ∧ t ≤ 18) ∨ ((ph_c q n).1 = 0 ∧ 0 < (ph_c q n).2 ∧ 20 ≤ t ∧ t ≤ 23)) :
    wY_ask_75 (fun r' v' => r' = nI (n + 1) ∧ i_Rel (k + 4) (nI (n + 1), nI (ph_cs t (ph_c q n)).1, nI (ph_cs t (ph_c q n)).2, wd, ln, upd q n (nI t), np, tr, eb) v') (nI t) (nI n) ln wd q rw sk pl := by
  obtain ⟨e, R'⟩ := ph_R_a R hn ht
  unfold wY_ask_75
  rw [nI_clamp (n := n) (by omega), ← e]
  exact ⟨vp_in_nI hn (by decide), nm_e (nm_r (nI_1 n) ⟨rfl, ph_mk R'⟩)⟩
theorem ph_xm {post : Int32 → Prop} {p : Nat × Nat} {x a : Int32} {wd ln q np tr eb : Nat → Int32} (hp : p.1 + p.2 < 100)
    (h0 : (x < 0 ∨ nI 24 ≤ x ∨ ∃ t, t < 24 ∧ x = nI t ∧ ¬ ((0 < p.1 ∧ t ≤ 18) ∨ (p.1 = 0 ∧ 20 ≤ t ∧ t ≤ 23))) → post 0)
    (h1 : ∀ t, x = nI t → ((0 < p.1 ∧ t ≤ 18) ∨ (p.1 = 0 ∧ 20 ≤ t ∧ t ≤ 23)) → post 1) : wpX_mayComeNext post (a, nI p.1, nI p.2, wd, ln, q, np, tr, eb) x := by
  unfold wpX_mayComeNext
  dsimp only
  rcases pk_ix x (n := 24) (by omega) with h | h | ⟨t, ht, rfl⟩
  · refine pk_le p.1 0 (fun z => ?_) (fun z => ?_)
    · unfold wpX_isConditionToken
      exact br_t (Int32.lt_trans h (by decide)) ⟨by decide, h0 (Or.inl h)⟩
    · exact ph_xs0 (Or.inl h) ⟨by decide, h0 (Or.inl h)⟩
  · refine pk_le p.1 0 (fun z => ?_) (fun z => ?_)
    · unfold wpX_isConditionToken
      refine br_c (fun _ => ⟨by decide, h0 (Or.inr (Or.inl h))⟩) (fun y => br_t ?_ ⟨by decide, h0 (Or.inr (Or.inl h))⟩)
      exact Int32.lt_of_lt_of_le (by decide) h
    · exact ph_xs0 (Or.inr (Int32.le_trans (by decide) h)) ⟨by decide, h0 (Or.inr (Or.inl h))⟩
  · refine pk_le p.1 0 (fun z => ?_) (fun z => ?_)
    · unfold wpX_isConditionToken
      refine pk_lt t 20 (fun y => ⟨by decide, h0 (Or.inr (Or.inr ⟨t, ht, rfl, by omega⟩))⟩) (fun y => pk_lt 23 t (fun z => absurd z (by omega)) (fun _ => ⟨by decide, h1 t rfl (by omega)⟩))
    · by_cases y : t ≤ 18
      · exact ph_xs1 (by omega) ⟨by decide, h1 t rfl (by omega)⟩
      · exact ph_xs0 (Or.inr (nI_le (by omega) (by omega))) ⟨by decide, h0 (Or.inr (Or.inr ⟨t, ht, rfl, by omega⟩))⟩
theorem i_vc_ask {k : Nat} {u : SX} {v : SY} (I : i_Rel k u v) (hk : k + 4 ≤ 2048) (v1 : Int32) : wpX_ask (fun r u' => wpY_ask (fun r' v' => r' = r ∧ i_Rel (k + 4) u' v') v v1) u v1 := by
  obtain ⟨n, wd, ln, q, np, tr, eb, rw, sk, pl, rfl, rfl, R⟩ := I
  have hn := R.1
  have B := ph_c_le q n
  unfold wpX_ask
  dsimp only
  refine pk_le 12 n (fun h => ?_) (fun h => ?_)
  · unfold wpY_ask
    dsimp only
    refine ph_due R.1 R.2.1 (fun pl' => ?_)
    dsimp only
    exact pk_le 12 n (fun _ => ⟨rfl, ph_mk R⟩) (fun z => absurd z (by omega))
  · refine ph_xc (by omega) ?_
    by_cases z : (ph_c q n).1 + (ph_c q n).2 = 0
    · refine br_f (by rw [show ph_cp (ph_c q n) = 1 from if_pos z]; decide) ?_
      unfold wpY_ask
      dsimp only
      refine ph_due R.1 R.2.1 (fun pl' => ?_)
      dsimp only
      exact pk_le 12 n (fun z => absurd z (by omega)) (fun _ => br_t (if_pos z) ⟨rfl, ph_mk R⟩)
    · refine br_t (if_neg z) ?_
      refine ph_xm (by omega) (fun h0 => ?_) (fun t et h1 => ?_)
      · refine br_t rfl ?_
        unfold wpY_ask
        dsimp only
        refine ph_due R.1 R.2.1 (fun pl' => ?_)
        dsimp only
        refine pk_le 12 n (fun z => absurd z (by omega)) (fun _ => br_f ?_ ?_)
        · unfold ph_kd; rw [if_neg z]; split <;> decide
        · rcases h0 with h0 | h0 | ⟨t, ht, rfl, h0⟩
          · exact ph_ya0 (Or.inl h0) ⟨rfl, ph_mk R⟩
          · exact ph_ya0 (Or.inr (Or.inl h0)) ⟨rfl, ph_mk R⟩
          · by_cases a : t ≤ 18
            · refine ph_ya1 a ?_
              have e : ph_kd (ph_c q n) = 1 := by unfold ph_kd; rw [if_neg z, if_neg (by omega)]
              exact br_t e (br_t rfl ⟨rfl, ph_mk R⟩)
            · by_cases b : t = 19
              · exact ph_ya0 (Or.inr (Or.inr (congrArg nI b))) ⟨rfl, ph_mk R⟩
              · refine ph_ya2 (by omega) (by omega) ?_
                have e : ph_kd (ph_c q n) = 2 := by unfold ph_kd; rw [if_neg z, if_pos (by omega)]
                exact br_f (by rw [e]; decide) (br_t rfl ⟨rfl, ph_mk R⟩)
      · subst et
        have h1' : (0 < (ph_c q n).1 ∧ t ≤ 18) ∨ ((ph_c q n).1 = 0 ∧ 0 < (ph_c q n).2 ∧ 20 ≤ t ∧ t ≤ 23) := by omega
        refine br_f (by decide) ⟨vp_in_nI (by omega) (by decide), ?_⟩
        rw [nI_clamp (n := n) (by omega)]
        refine nm_e (nm_r (nI_1 n) (ph_cd1 (by omega) h1' ?_))
        dsimp only
        unfold wpY_ask
        dsimp only
        refine ph_due R.1 R.2.1 (fun pl' => ?_)
        dsimp only
        refine pk_le 12 n (fun z => absurd z (by omega)) (fun _ => br_f ?_ ?_)
        · unfold ph_kd; rw [if_neg z]; split <;> decide
        · rcases h1 with ⟨a, b⟩ | ⟨a, b, c⟩
          · refine ph_ya1 b ?_
            have e : ph_kd (ph_c q n) = 2 := by unfold ph_kd; rw [if_neg z, if_pos (by omega)]
            exact br_f (by rw [e]; decide) (br_f (by decide) (ph_y75 R (by omega) h1'))
          · refine ph_ya2 b c ?_
            have e : ph_kd (ph_c q n) = 1 := by unfold ph_kd; rw [if_neg z, if_neg (by omega)]
            exact br_t e (br_f (by decide) (ph_y75 R (by omega) h1'))
end
section
/-! ===== hasTokens, having, frequency ===== -/
def ph_ht (q : Nat → Int32) : Nat → Int32
  | 0 => 0
  | m + 1 => if q m = 23 then ph_ht q m + 1 else ph_ht q m
theorem ph_htX {post : Int32 → Prop} {n : Nat} {sd cd : Int32} {wd ln q np tr eb : Nat → Int32} (hn : n ≤ 12) (h : post (ph_ht q n)) :
    ∀ r m, m + r = n → wX_hasTokens_4 post (nI n) sd cd wd ln q np tr eb (r + 1) (ph_ht q m) (nI m) := by
  intro r
  induction r with
  | zero =>
    intro m hm
    have e : m = n := by omega
    subst e
    rw [wX_hasTokens_4]
    exact pk_le m m (fun _ => h) (fun z => absurd z (by omega))
  | succ r ih =>
    intro m hm
    have i := ih (m + 1) (by omega)
    rw [wX_hasTokens_4]
    dsimp only
    rw [nI_clamp (n := m) (by omega)]
    refine pk_le n m (fun z => absurd z (by omega)) (fun _ => ⟨vp_in_nI (by omega) (by decide), br_c (fun z => ?_) (fun z => ?_)⟩)
    · rw [show ph_ht q (m + 1) = ph_ht q m + 1 from if_pos z] at i
      exact nm_e (nm_r (nI_1 m) i)
    · rw [show ph_ht q (m + 1) = ph_ht q m from if_neg z] at i
      exact nm_r (nI_1 m) i
theorem ph_htY {post : Int32 → Prop} {n : Nat} {sz wd q rw sk pl : Nat → Int32} (hn : n ≤ 12) (h : post (ph_ht q n)) :
    ∀ r m, m + r = n → wY_hasTokens_4 post (nI n) sz wd q rw sk pl (r + 1) (ph_ht q m) (nI m) := by
  intro r
  induction r with
  | zero =>
    intro m hm
    have e : m = n := by omega
    subst e
    rw [wY_hasTokens_4]
    exact pk_le m m (fun _ => h) (fun z => absurd z (by omega))
  | succ r ih =>
    intro m hm
    have i := ih (m + 1) (by omega)
    rw [wY_hasTokens_4]
    dsimp only
    rw [nI_clamp (n := m) (by omega)]
    refine pk_le n m (fun z => absurd z (by omega)) (fun _ => ⟨vp_in_nI (by omega) (by decide), br_c (fun z => ?_) (fun z => ?_)⟩)
    · rw [show ph_ht q (m + 1) = ph_ht q m + 1 from if_pos z] at i
      exact nm_e (nm_r (nI_1 m) i)
    · rw [show ph_ht q (m + 1) = ph_ht q m from if_neg z] at i
      exact nm_r (nI_1 m) i
theorem i_vc_hasTokens {k : Nat} {u : SX} {v : SY} (I : i_Rel k u v) (hk : k + 4 ≤ 2048) : wpX_hasTokens (fun r => wpY_hasTokens (fun r' => r' = r ∧ i_Rel (k + 4) u v) v) u := by
  obtain ⟨n, wd, ln, q, np, tr, eb, rw, sk, pl, rfl, rfl, R⟩ := I
  unfold wpX_hasTokens
  dsimp only
  refine ⟨n + 1, ph_htX R.1 ?_ n 0 (by omega)⟩
  unfold wpY_hasTokens
  dsimp only
  exact ⟨n + 1, ph_htY R.1 ⟨rfl, ph_mk R⟩ n 0 (by omega)⟩
/-- how many of the first p places of the row at o have w -/
def ph_oc (wd : Nat → Int32) (w : Int32) (o : Nat) : Nat → Nat
  | 0 => 0
  | p + 1 => if wd (o + p) = w then ph_oc wd w o p + 1 else ph_oc wd w o p
theorem ph_oc_le (wd : Nat → Int32) (w : Int32) (o : Nat) : ∀ p, ph_oc wd w o p ≤ p := by
  intro p
  induction p with
  | zero => exact Nat.le_refl 0
  | succ p ih =>
    show (if wd (o + p) = w then ph_oc wd w o p + 1 else ph_oc wd w o p) ≤ p + 1
    split <;> omega
def ph_l (ln : Nat → Int32) (d : Nat) : Nat := (ln d).toNatClampNeg
theorem ph_R_l {n : Nat} {wd ln q : Nat → Int32} (R : ph_R n wd ln q) {d : Nat} (hd : d < 6) :
    ph_l ln d ≤ 24 ∧ ln d = nI (ph_l ln d) ∧ ∀ p, p < ph_l ln d → ∃ w, w ≤ 11 ∧ wd (24 * d + p) = nI w := by
  obtain ⟨l, hl, e, h⟩ := R.2.2 d hd
  have e' : ph_l ln d = l := by unfold ph_l; rw [e]; exact nI_clamp (by omega)
  rw [e']
  exact ⟨hl, e, h⟩
theorem ph_oc_neg {n : Nat} {wd ln q : Nat → Int32} (R : ph_R n wd ln q) {d : Nat} (hd : d < 6) {w : Int32} (hw : w < 0) : ∀ p, p ≤ ph_l ln d → ph_oc wd w (24 * d) p = 0 := by
  intro p
  induction p with
  | zero => intro _; rfl
  | succ p ih =>
    intro hp
    obtain ⟨x, hx, e⟩ := (ph_R_l R hd).2.2 p (by omega)
    show (if wd (24 * d + p) = w then ph_oc wd w (24 * d) p + 1 else ph_oc wd w (24 * d) p) = 0
    rw [if_neg, ih (by omega)]
    intro z
    rw [← z, e] at hw
    exact nI_pos (by omega) hw
theorem ph_ocX {post : Int32 → Prop} {n d : Nat} {w f sd cd : Int32} {wd ln q np tr eb : Nat → Int32} (R : ph_R n wd ln q) (hd : d < 6) (h : post (nI (ph_oc wd w (24 * d) (ph_l ln d)))) :
    ∀ r p, p + r = ph_l ln d → wX_occurrences_5 post (nI d) w f sd cd wd ln q np tr eb (r + 1) (nI (ph_oc wd w (24 * d) p)) (nI p) := by
  obtain ⟨hl, el, _⟩ := ph_R_l R hd
  intro r
  induction r with
  | zero =>
    intro p hp
    have e : p = ph_l ln d := by omega
    rw [wX_occurrences_5]
    dsimp only
    rw [nI_clamp (n := d) (by omega), el]
    refine ⟨vp_in_nI hd (by decide), pk_le (ph_l ln d) p (fun _ => ?_) (fun z => absurd z (by omega))⟩
    rw [e]; exact h
  | succ r ih =>
    intro p hp
    have i := ih (p + 1) (by omega)
    rw [wX_occurrences_5]
    dsimp only
    rw [nI_clamp (n := d) (by omega), el, ph_ix, nI_clamp (n := 24 * d + p) (by omega)]
    refine ⟨vp_in_nI hd (by decide), pk_le (ph_l ln d) p (fun z => absurd z (by omega)) (fun _ => ⟨vp_in_nI (by omega) (by decide), br_c (fun z => ?_) (fun z => ?_)⟩)⟩
    · rw [show ph_oc wd w (24 * d) (p + 1) = ph_oc wd w (24 * d) p + 1 from if_pos z] at i
      exact nm_r (nI_1 _) (nm_r (nI_1 p) i)
    · rw [show ph_oc wd w (24 * d) (p + 1) = ph_oc wd w (24 * d) p from if_neg z] at i
      exact nm_r (nI_1 p) i
theorem ph_oX {post : Int32 → Prop} {n d : Nat} {w f sd cd : Int32} {wd ln q np tr eb : Nat → Int32} (R : ph_R n wd ln q) (hd : d < 6) (h : post (nI (ph_oc wd w (24 * d) (ph_l ln d)))) :
    wpX_occurrences post (f, sd, cd, wd, ln, q, np, tr, eb) (nI d) w := by
  unfold wpX_occurrences
  dsimp only
  exact ⟨ph_l ln d + 1, ph_ocX R hd h (ph_l ln d) 0 (by omega)⟩
def ph_hv (wd ln : Nat → Int32) (w : Int32) : Nat → Int32
  | 0 => 0
  | d + 1 => if ph_oc wd w (24 * d) (ph_l ln d) = 0 then ph_hv wd ln w d else ph_hv wd ln w d ||| ((1 : Int32) <<< (nI d &&& 31))
def ph_fr (wd ln : Nat → Int32) (w : Int32) : Nat → Nat
  | 0 => 0
  | d + 1 => ph_fr wd ln w d + ph_oc wd w (24 * d) (ph_l ln d)
theorem ph_hvX {post : Int32 → Prop} {n : Nat} {w f sd cd : Int32} {wd ln q np tr eb : Nat → Int32} (R : ph_R n wd ln q) (h : post (ph_hv wd ln w 6)) :
    ∀ r d, d + r = 6 → wX_having_4 post w f sd cd wd ln q np tr eb (r + 1) (ph_hv wd ln w d) (nI d) := by
  intro r
  induction r with
  | zero =>
    intro d hd
    have e : d = 6 := by omega
    subst e
    rw [wX_having_4]
    exact br_t (nI_le (a := 6) (b := 6) (by omega) (by decide)) h
  | succ r ih =>
    intro d hd
    have i := ih (d + 1) (by omega)
    have L := ph_oc_le wd w (24 * d) (ph_l ln d)
    have L2 := (ph_R_l R (d := d) (by omega)).1
    rw [wX_having_4]
    dsimp only
    refine br_f (nI_ge (b := 6) (by omega) (by decide)) (ph_oX R (by omega) ?_)
    refine pk_le (ph_oc wd w (24 * d) (ph_l ln d)) 0 (fun z => ?_) (fun z => ?_)
    · rw [show ph_hv wd ln w (d + 1) = ph_hv wd ln w d from if_pos (by omega)] at i
      exact nm_r (nI_1 d) i
    · rw [show ph_hv wd ln w (d + 1) = ph_hv wd ln w d ||| ((1 : Int32) <<< (nI d &&& 31)) from if_neg (by omega)] at i
      exact nm_e (nm_r (nI_1 d) i)
theorem ph_frX {post : Int32 → Prop} {n : Nat} {w f sd cd : Int32} {wd ln q np tr eb : Nat → Int32} (R : ph_R n wd ln q) (h : post (nI (ph_fr wd ln w 6))) :
    ∀ r d, d + r = 6 → wX_frequency_4 post w f sd cd wd ln q np tr eb (r + 1) (nI (ph_fr wd ln w d)) (nI d) := by
  intro r
  induction r with
  | zero =>
    intro d hd
    have e : d = 6 := by omega
    subst e
    rw [wX_frequency_4]
    exact br_t (nI_le (a := 6) (b := 6) (by omega) (by decide)) h
  | succ r ih =>
    intro d hd
    have i := ih (d + 1) (by omega)
    rw [wX_frequency_4]
    dsimp only
    refine br_f (nI_ge (b := 6) (by omega) (by decide)) (ph_oX R (by omega) ?_)
    exact nm_r (nI_add _ _) (nm_r (nI_1 d) i)
/-- the reference, p places into the row of d -/
def ph_ya (wd ln : Nat → Int32) (w : Int32) (d p : Nat) : Int32 :=
  if ph_oc wd w (24 * d) (min p (ph_l ln d)) = 0 then ph_hv wd ln w d else ph_hv wd ln w d ||| ((1 : Int32) <<< (nI d &&& 31))
theorem ph_ya_0 (wd ln : Nat → Int32) (w : Int32) (d : Nat) : ph_ya wd ln w d 0 = ph_hv wd ln w d := by
  unfold ph_ya
  rw [if_pos]
  rw [Nat.zero_min]; rfl
theorem ph_ya_24 {wd ln : Nat → Int32} {w : Int32} {d : Nat} (h : ph_l ln d ≤ 24) : ph_ya wd ln w d 24 = ph_hv wd ln w (d + 1) := by
  unfold ph_ya
  rw [Nat.min_eq_right h]; rfl
theorem ph_ya_n {wd ln : Nat → Int32} {w : Int32} {d p : Nat} (h : ph_l ln d ≤ p) : ph_ya wd ln w d (p + 1) = ph_ya wd ln w d p := by
  unfold ph_ya
  rw [Nat.min_eq_right h, Nat.min_eq_right (by omega)]
theorem ph_ya_f {wd ln : Nat → Int32} {w : Int32} {d p : Nat} (h : p < ph_l ln d) (z : ¬ wd (24 * d + p) = w) : ph_ya wd ln w d (p + 1) = ph_ya wd ln w d p := by
  unfold ph_ya
  rw [Nat.min_eq_left (by omega), Nat.min_eq_left (by omega), show ph_oc wd w (24 * d) (p + 1) = ph_oc wd w (24 * d) p from if_neg z]
theorem ph_ya_t {wd ln : Nat → Int32} {w : Int32} {d p : Nat} (h : p < ph_l ln d) (z : wd (24 * d + p) = w) : ph_ya wd ln w d (p + 1) = ph_ya wd ln w d p ||| ((1 : Int32) <<< (nI d &&& 31)) := by
  unfold ph_ya
  rw [Nat.min_eq_left (by omega), Nat.min_eq_left (by omega), show ph_oc wd w (24 * d) (p + 1) = ph_oc wd w (24 * d) p + 1 from if_pos z, if_neg (by omega)]
  split
  · rfl
  · rw [Int32.or_assoc, Int32.or_self]
theorem ph_hvY {post : Int32 → Prop} {n : Nat} {w f : Int32} {wd ln q rw sk pl : Nat → Int32} (R : ph_R n wd ln q) (hw : ¬ w < 0) (h : post (ph_hv wd ln w 6)) :
    ∀ r d p, p < 24 → 24 * d + p + r = 144 → wY_having_4 post w f ln wd q rw sk pl (r + 1) (ph_ya wd ln w d p) (nI (24 * d + p)) := by
  intro r
  induction r with
  | zero =>
    intro d p hp hd
    have e : d = 6 := by omega
    have e2 : p = 0 := by omega
    subst e e2
    rw [wY_having_4, ph_ya_0]
    exact br_t (nI_le (a := 144) (b := 144) (by omega) (by decide)) h
  | succ r ih =>
    intro d p hp hc
    have hd : d < 6 := by omega
    obtain ⟨hl, el, _⟩ := ph_R_l R hd
    have i : wY_having_4 post w f ln wd q rw sk pl (r + 1) (ph_ya wd ln w d (p + 1)) (nI (24 * d + p + 1)) := by
      by_cases z : p + 1 < 24
      · exact ih d (p + 1) z (by omega)
      · have e : p = 23 := by omega
        have j := ih (d + 1) 0 (by omega) (by omega)
        rw [ph_ya_0, ← ph_ya_24 hl] at j
        subst e
        exact j
    rw [wY_having_4]
    dsimp only
    rw [show (24 : Int32) = nI 24 from rfl, pk_rem (a := 24 * d + p) (by omega) (by omega) (by omega), pk_div (a := 24 * d + p) (by omega) (by omega) (by omega), show (24 * d + p) / 24 = d by omega, show (24 * d + p) % 24 = p by omega, nI_clamp (n := d) (by omega), nI_clamp (n := 24 * d + p) (by omega), el]
    refine br_f (nI_ge (b := 144) (by omega) (by decide)) (br_f hw ⟨by decide, by decide, vp_in_nI hd (by decide), pk_le (ph_l ln d) p (fun z => ?_) (fun z => ⟨vp_in_nI (by omega) (by decide), br_c (fun y => ⟨by decide, ?_⟩) (fun y => ?_)⟩)⟩)
    · rw [ph_ya_n z] at i
      exact nm_r (nI_1 _) i
    · rw [ph_ya_t z y] at i
      exact nm_e (nm_r (nI_1 _) i)
    · rw [ph_ya_f z y] at i
      exact nm_r (nI_1 _) i
theorem ph_frY {post : Int32 → Prop} {n : Nat} {w f : Int32} {wd ln q rw sk pl : Nat → Int32} (R : ph_R n wd ln q) (hw : ¬ w < 0) (h : post (nI (ph_fr wd ln w 6))) :
    ∀ r d p, p < 24 → 24 * d + p + r = 144 → wY_frequency_4 post w f ln wd q rw sk pl (r + 1) (nI (ph_fr wd ln w d + ph_oc wd w (24 * d) (min p (ph_l ln d)))) (nI (24 * d + p)) := by
  intro r
  induction r with
  | zero =>
    intro d p hp hd
    have e : d = 6 := by omega
    have e2 : p = 0 := by omega
    subst e e2
    rw [wY_frequency_4, Nat.zero_min]
    exact br_t (nI_le (a := 144) (b := 144) (by omega) (by decide)) h
  | succ r ih =>
    intro d p hp hc
    have hd : d < 6 := by omega
    obtain ⟨hl, el, _⟩ := ph_R_l R hd
    have i : wY_frequency_4 post w f ln wd q rw sk pl (r + 1) (nI (ph_fr wd ln w d + ph_oc wd w (24 * d) (min (p + 1) (ph_l ln d)))) (nI (24 * d + p + 1)) := by
      by_cases z : p + 1 < 24
      · exact ih d (p + 1) z (by omega)
      · have e : p = 23 := by omega
        have j := ih (d + 1) 0 (by omega) (by omega)
        rw [Nat.zero_min] at j
        subst e
        rw [Nat.min_eq_right hl]
        exact j
    rw [wY_frequency_4]
    dsimp only
    rw [show (24 : Int32) = nI 24 from rfl, pk_rem (a := 24 * d + p) (by omega) (by omega) (by omega), pk_div (a := 24 * d + p) (by omega) (by omega) (by omega), show (24 * d + p) / 24 = d by omega, show (24 * d + p) % 24 = p by omega, nI_clamp (n := d) (by omega), nI_clamp (n := 24 * d + p) (by omega), el]
    refine br_f (nI_ge (b := 144) (by omega) (by decide)) (br_f hw ⟨by decide, by decide, vp_in_nI hd (by decide), pk_le (ph_l ln d) p (fun z => ?_) (fun z => ⟨vp_in_nI (by omega) (by decide), br_c (fun y => ?_) (fun y => ?_)⟩)⟩)
    · rw [Nat.min_eq_right (by omega)] at i
      rw [Nat.min_eq_right (by omega)]
      exact nm_r (nI_1 _) i
    · rw [Nat.min_eq_left (by omega), show ph_oc wd w (24 * d) (p + 1) = ph_oc wd w (24 * d) p + 1 from if_pos y] at i
      rw [Nat.min_eq_left (by omega)]
      exact nm_r (nI_1 _) (nm_r (nI_1 _) i)
    · rw [Nat.min_eq_left (by omega), show ph_oc wd w (24 * d) (p + 1) = ph_oc wd w (24 * d) p from if_neg y] at i
      rw [Nat.min_eq_left (by omega)]
      exact nm_r (nI_1 _) i
theorem ph_hv_neg {n : Nat} {wd ln q : Nat → Int32} (R : ph_R n wd ln q) {w : Int32} (hw : w < 0) : ∀ d, d ≤ 6 → ph_hv wd ln w d = 0 ∧ ph_fr wd ln w d = 0 := by
  intro d
  induction d with
  | zero => intro _; exact ⟨rfl, rfl⟩
  | succ d ih =>
    intro hd
    have z := ph_oc_neg R (d := d) (by omega) hw (ph_l ln d) (Nat.le_refl _)
    obtain ⟨a, b⟩ := ih (by omega)
    refine ⟨(if_pos z).trans a, ?_⟩
    show ph_fr wd ln w d + ph_oc wd w (24 * d) (ph_l ln d) = 0
    omega
theorem i_vc_having {k : Nat} {u : SX} {v : SY} (I : i_Rel k u v) (hk : k + 4 ≤ 2048) (v1 : Int32) : wpX_having (fun r => wpY_having (fun r' => r' = r ∧ i_Rel (k + 4) u v) v v1) u v1 := by
  obtain ⟨n, wd, ln, q, np, tr, eb, rw, sk, pl, rfl, rfl, R⟩ := I
  unfold wpX_having
  dsimp only
  refine ⟨7, ph_hvX R ?_ 6 0 (by omega)⟩
  unfold wpY_having
  dsimp only
  by_cases z : v1 < 0
  · rw [(ph_hv_neg R z 6 (by omega)).1]
    refine ⟨1, ?_⟩
    rw [wY_having_4]
    exact br_f (by decide) (br_t z ⟨rfl, ph_mk R⟩)
  · refine ⟨145, ?_⟩
    have h := ph_hvY (w := v1) (f := nI n) (rw := rw) (sk := sk) (pl := pl) (post := fun r' => r' = ph_hv wd ln v1 6 ∧ i_Rel (k + 4) (nI n, nI (ph_c q n).1, nI (ph_c q n).2, wd, ln, q, np, tr, eb) (nI n, ln, wd, q, rw, sk, pl)) R z ⟨rfl, ph_mk R⟩ 144 0 0 (by omega) (by omega)
    rw [ph_ya_0] at h
    exact h
theorem i_vc_frequency {k : Nat} {u : SX} {v : SY} (I : i_Rel k u v) (hk : k + 4 ≤ 2048) (v1 : Int32) : wpX_frequency (fun r => wpY_frequency (fun r' => r' = r ∧ i_Rel (k + 4) u v) v v1) u v1 := by
  obtain ⟨n, wd, ln, q, np, tr, eb, rw, sk, pl, rfl, rfl, R⟩ := I
  unfold wpX_frequency
  dsimp only
  refine ⟨7, ph_frX R ?_ 6 0 (by omega)⟩
  unfold wpY_frequency
  dsimp only
  by_cases z : v1 < 0
  · rw [(ph_hv_neg R z 6 (by omega)).2]
    refine ⟨1, ?_⟩
    rw [wY_frequency_4]
    exact br_f (by decide) (br_t z ⟨rfl, ph_mk R⟩)
  · refine ⟨145, ?_⟩
    have h := ph_frY (w := v1) (f := nI n) (rw := rw) (sk := sk) (pl := pl) (post := fun r' => r' = nI (ph_fr wd ln v1 6) ∧ i_Rel (k + 4) (nI n, nI (ph_c q n).1, nI (ph_c q n).2, wd, ln, q, np, tr, eb) (nI n, ln, wd, q, rw, sk, pl)) R z ⟨rfl, ph_mk R⟩ 144 0 0 (by omega) (by omega)
    rw [Nat.zero_min] at h
    exact h
end
section
/-! ===== the pure table: what evaluation finds, from the last token to the first ===== -/
def ph_wrow (wd : Nat → Int32) (o L : Nat) (t : Int32) (b : Nat) : Int32 := if b < L ∧ wd (o + b) = t then (1 : Int32) <<< (nI b &&& 31) else 0
def ph_all (r : Nat → Int32) : Nat → Int32
  | 0 => 0
  | b + 1 => ph_all r b ||| r b
def ph_row (wd : Nat → Int32) (o L : Nat) (q : Nat → Int32) (i s t : Nat) (v : Nat → Nat → Int32) (b : Nat) : Int32 :=
  if ph_t q i ≤ 11 then ph_wrow wd o L (q i) b
  else if ph_t q i = 12 then v s b ||| v t b
  else if ph_t q i = 18 then v s b &&& ph_reach (v t) (b + 1)
  else if ph_t q i ≤ 17 then ph_then (v s b) (v t) (ph_t q i - 13) (24 - (ph_t q i - 13))
  else if ph_t q i = 23 then (if ph_all (v s) 24 = 0 then 0 else 1)
  else if ph_t q i = 22 then (if v s 0 = 1 then 0 else 1)
  else if ph_t q i = 21 then (if v s 0 = 1 ∨ v t 0 = 1 then 1 else 0)
  else (if v s 0 = 1 ∧ v t 0 = 1 then 1 else 0)
section
variable {wd q : Nat → Int32} {o L i s t b : Nat} {v : Nat → Nat → Int32}
theorem ph_row_w (h : ph_t q i ≤ 11) : ph_row wd o L q i s t v b = ph_wrow wd o L (q i) b := if_pos h
theorem ph_row_o (h : ph_t q i = 12) : ph_row wd o L q i s t v b = v s b ||| v t b := by
  unfold ph_row; rw [if_neg (by omega), if_pos h]
theorem ph_row_i (h : ph_t q i = 18) : ph_row wd o L q i s t v b = v s b &&& ph_reach (v t) (b + 1) := by
  unfold ph_row; rw [if_neg (by omega), if_neg (by omega), if_pos h]
theorem ph_row_t (h : 13 ≤ ph_t q i) (h2 : ph_t q i ≤ 17) : ph_row wd o L q i s t v b = ph_then (v s b) (v t) (ph_t q i - 13) (24 - (ph_t q i - 13)) := by
  unfold ph_row; rw [if_neg (by omega), if_neg (by omega), if_neg (by omega), if_pos h2]
theorem ph_row_23 (h : ph_t q i = 23) : ph_row wd o L q i s t v b = if ph_all (v s) 24 = 0 then 0 else 1 := by
  unfold ph_row; rw [if_neg (by omega), if_neg (by omega), if_neg (by omega), if_neg (by omega), if_pos h]
theorem ph_row_22 (h : ph_t q i = 22) : ph_row wd o L q i s t v b = if v s 0 = 1 then 0 else 1 := by
  unfold ph_row; rw [if_neg (by omega), if_neg (by omega), if_neg (by omega), if_neg (by omega), if_neg (by omega), if_pos h]
theorem ph_row_21 (h : ph_t q i = 21) : ph_row wd o L q i s t v b = if v s 0 = 1 ∨ v t 0 = 1 then 1 else 0 := by
  unfold ph_row; rw [if_neg (by omega), if_neg (by omega), if_neg (by omega), if_neg (by omega), if_neg (by omega), if_neg (by omega), if_pos h]
theorem ph_row_20 (h : ph_t q i = 20) : ph_row wd o L q i s t v b = if v s 0 = 1 ∧ v t 0 = 1 then 1 else 0 := by
  unfold ph_row; rw [if_neg (by omega), if_neg (by omega), if_neg (by omega), if_neg (by omega), if_neg (by omega), if_neg (by omega), if_neg (by omega)]
theorem ph_row_01 (h : 20 ≤ ph_t q i) : ph_row wd o L q i s t v b = 0 ∨ ph_row wd o L q i s t v b = 1 := by
  unfold ph_row
  rw [if_neg (by omega), if_neg (by omega), if_neg (by omega), if_neg (by omega)]
  repeat' split
  all_goals first | exact Or.inl rfl | exact Or.inr rfl
end
theorem ph_then_ext {x : Int32} {r r' : Nat → Int32} {k : Nat} : ∀ m, m + k ≤ 24 → (∀ c, c < 24 → r c = r' c) → ph_then x r k m = ph_then x r' k m := by
  intro m
  induction m with
  | zero => intro _ _; rfl
  | succ m ih =>
    intro hm h
    show (if _ then ph_then x r k m ||| r (m + k) else ph_then x r k m) = (if _ then ph_then x r' k m ||| r' (m + k) else ph_then x r' k m)
    rw [ih (by omega) h, h (m + k) (by omega)]
theorem ph_reach_ext {r r' : Nat → Int32} : ∀ m, m ≤ 24 → (∀ c, c < 24 → r c = r' c) → ph_reach r m = ph_reach r' m := by
  intro m
  induction m with
  | zero => intro _ _; rfl
  | succ m ih =>
    intro hm h
    show ph_reach r m ||| ph_fill (r m) 24 = ph_reach r' m ||| ph_fill (r' m) 24
    rw [ih (by omega) h, h m (by omega)]
theorem ph_all_ext {r r' : Nat → Int32} : ∀ m, m ≤ 24 → (∀ c, c < 24 → r c = r' c) → ph_all r m = ph_all r' m := by
  intro m
  induction m with
  | zero => intro _ _; rfl
  | succ m ih =>
    intro hm h
    show ph_all r m ||| r m = ph_all r' m ||| r' m
    rw [ih (by omega) h, h m (by omega)]
/-- the stack, from its top -/
def ph_push (i p : Nat) (st : Nat → Nat) (j : Nat) : Nat := if j = 0 then i else st (j - 1 + p)
theorem ph_push_s (i p : Nat) (st : Nat → Nat) (j : Nat) : ph_push i p st (j + 1) = st (j + p) := by
  unfold ph_push; rw [if_neg (by omega), show j + 1 - 1 + p = j + p by omega]
def ph_set (v : Nat → Nat → Int32) (i : Nat) (f : Nat → Int32) (j : Nat) : Nat → Int32 := if j = i then f else v j
def ph_ev (wd : Nat → Int32) (o L : Nat) (q : Nat → Int32) (n : Nat) : Nat → (Nat → Nat) × (Nat → Nat → Int32)
  | 0 => (fun _ => n, fun _ _ => 0)
  | m + 1 => (ph_push (n - (m + 1)) (ph_par (ph_t q (n - (m + 1)))) (ph_ev wd o L q n m).1,
      ph_set (ph_ev wd o L q n m).2 (n - (m + 1)) (ph_row wd o L q (n - (m + 1)) ((ph_ev wd o L q n m).1 0) ((ph_ev wd o L q n m).1 1) (ph_ev wd o L q n m).2))
def ph_S (wd : Nat → Int32) (o L : Nat) (q : Nat → Int32) (n i : Nat) : Nat → Nat := (ph_ev wd o L q n (n - i)).1
def ph_V (wd : Nat → Int32) (o L : Nat) (q : Nat → Int32) (n i : Nat) : Nat → Nat → Int32 := (ph_ev wd o L q n (n - i)).2
section
variable {wd q : Nat → Int32} {o L n i : Nat}
theorem ph_S_n : ph_S wd o L q n n = fun _ => n := by
  unfold ph_S; rw [Nat.sub_self]; rfl
theorem ph_S_s (h : i < n) : ph_S wd o L q n i = ph_push i (ph_par (ph_t q i)) (ph_S wd o L q n (i + 1)) := by
  obtain ⟨m, rfl⟩ : ∃ m, n = i + 1 + m := ⟨n - (i + 1), by omega⟩
  unfold ph_S
  rw [show i + 1 + m - i = m + 1 by omega, show i + 1 + m - (i + 1) = m by omega]
  show ph_push (i + 1 + m - (m + 1)) _ _ = _
  rw [show i + 1 + m - (m + 1) = i by omega]
theorem ph_V_s (h : i < n) : ph_V wd o L q n i = ph_set (ph_V wd o L q n (i + 1)) i (ph_row wd o L q i (ph_S wd o L q n (i + 1) 0) (ph_S wd o L q n (i + 1) 1) (ph_V wd o L q n (i + 1))) := by
  obtain ⟨m, rfl⟩ : ∃ m, n = i + 1 + m := ⟨n - (i + 1), by omega⟩
  unfold ph_V ph_S
  rw [show i + 1 + m - i = m + 1 by omega, show i + 1 + m - (i + 1) = m by omega]
  show ph_set _ (i + 1 + m - (m + 1)) _ = _
  rw [show i + 1 + m - (m + 1) = i by omega]
theorem ph_V_i (h : i < n) (b : Nat) : ph_V wd o L q n i i b = ph_row wd o L q i (ph_S wd o L q n (i + 1) 0) (ph_S wd o L q n (i + 1) 1) (ph_V wd o L q n (i + 1)) b := by
  rw [ph_V_s h]; unfold ph_set; rw [if_pos rfl]
theorem ph_V_j (h : i < n) {j : Nat} (hj : j ≠ i) (b : Nat) : ph_V wd o L q n i j b = ph_V wd o L q n (i + 1) j b := by
  rw [ph_V_s h]; unfold ph_set; rw [if_neg hj]
/-- the stack at i: its top is i, its members lie from i to n, first the spans due, then the conditions due -/
def ph_SI (wd : Nat → Int32) (o L : Nat) (q : Nat → Int32) (n i : Nat) : Prop :=
  ph_S wd o L q n i 0 = i ∧ (∀ j, i ≤ ph_S wd o L q n i j ∧ ph_S wd o L q n i j ≤ n) ∧
  (∀ j, j < (ph_c q i).1 → ph_S wd o L q n i j < n ∧ ph_t q (ph_S wd o L q n i j) ≤ 18) ∧
  (∀ j, (ph_c q i).1 ≤ j → j < (ph_c q i).1 + (ph_c q i).2 → ph_S wd o L q n i j < n ∧ 20 ≤ ph_t q (ph_S wd o L q n i j))
theorem ph_SI_n (c : (ph_c q n).1 + (ph_c q n).2 = 0) : ph_SI wd o L q n n := by
  unfold ph_SI
  rw [ph_S_n]
  refine ⟨rfl, fun j => ⟨Nat.le_refl n, Nat.le_refl n⟩, fun j hj => by omega, fun j hj hj2 => by omega⟩
theorem ph_SI_s (h : i < n) (ok : ph_ok q i) (H : ph_SI wd o L q n (i + 1)) : ph_SI wd o L q n i := by
  obtain ⟨h1, h2, h3, h4⟩ := H
  have K := ph_kinds ok
  unfold ph_SI
  rw [ph_S_s h]
  generalize ph_S wd o L q n (i + 1) = st at *
  generalize ph_par (ph_t q i) = p at *
  generalize ph_c q (i + 1) = c' at *
  generalize ph_c q i = c at *
  refine ⟨rfl, fun j => ?_, fun j hj => ?_, fun j hj hj2 => ?_⟩
  · cases j with
    | zero => exact ⟨Nat.le_refl i, Nat.le_of_lt h⟩
    | succ j => rw [ph_push_s]; have := h2 (j + p); omega
  · cases j with
    | zero => exact ⟨h, by show ph_t q i ≤ 18; omega⟩
    | succ j => rw [ph_push_s]; exact h3 (j + p) (by omega)
  · cases j with
    | zero => exact ⟨h, by show 20 ≤ ph_t q i; omega⟩
    | succ j => rw [ph_push_s]; exact h4 (j + p) (by omega) (by omega)
theorem ph_SI_all (c : (ph_c q n).1 + (ph_c q n).2 = 0) (ok : ∀ i, i < n → ph_ok q i) : ∀ r i, i + r = n → ph_SI wd o L q n i := by
  intro r
  induction r with
  | zero => intro i hi; have e : i = n := by omega
            subst e; exact ph_SI_n c
  | succ r ih => intro i hi; exact ph_SI_s (by omega) (ok i (by omega)) (ih (i + 1) (by omega))
/-- the table at i: a span row has no bit at 24 or above, a condition is 0 or 1 -/
def ph_VI (wd : Nat → Int32) (o L : Nat) (q : Nat → Int32) (n i : Nat) : Prop :=
  ∀ j, i ≤ j → j < n → (ph_t q j ≤ 18 → ∀ b, b < 24 → ph_lo (ph_V wd o L q n i j b)) ∧ (20 ≤ ph_t q j → ph_V wd o L q n i j 0 = 0 ∨ ph_V wd o L q n i j 0 = 1)
theorem ph_lo_w {t : Int32} {b : Nat} (hb : b < 24) : ph_lo (ph_wrow wd o L t b) := by
  unfold ph_wrow
  split
  · exact ph_lo1 hb
  · exact ph_lo0
theorem ph_VI_s (h : i < n) (ok : ph_ok q i) (H : ph_SI wd o L q n (i + 1)) (V : ph_VI wd o L q n (i + 1)) : ph_VI wd o L q n i := by
  intro j hj hj2
  by_cases z : j = i
  · subst z
    refine ⟨fun ht b hb => ?_, fun ht => ?_⟩
    · rw [ph_V_i h]
      by_cases w : ph_t q j ≤ 11
      · rw [ph_row_w w]; exact ph_lo_w hb
      · have K := ph_kinds ok
        have c2 : 2 ≤ (ph_c q (j + 1)).1 := by omega
        obtain ⟨h1, h2, h3, h4⟩ := H
        obtain ⟨s1, s2⟩ := h3 0 (by omega)
        obtain ⟨t1, t2⟩ := h3 1 (by omega)
        have sv := (V _ (h2 0).1 s1).1 s2
        have tv := (V _ (h2 1).1 t1).1 t2
        by_cases a : ph_t q j = 12
        · rw [ph_row_o a]; exact ph_loOr (sv b hb) (tv b hb)
        · by_cases e : ph_t q j = 18
          · rw [ph_row_i e]; exact ph_loAnd (sv b hb)
          · rw [ph_row_t (by omega) (by omega)]
            exact ph_loThen _ _ _ _ (fun e he => tv _ (by omega))
    · rw [ph_V_i h]; exact ph_row_01 ht
  · have B := V j (by omega) hj2
    refine ⟨fun ht b hb => ?_, fun ht => ?_⟩
    · rw [ph_V_j h z]; exact B.1 ht b hb
    · rw [ph_V_j h z]; exact B.2 ht
theorem ph_VI_all (c : (ph_c q n).1 + (ph_c q n).2 = 0) (ok : ∀ i, i < n → ph_ok q i) : ∀ r i, i + r = n → ph_VI wd o L q n i := by
  intro r
  induction r with
  | zero => intro i hi j hj hj2; omega
  | succ r ih => intro i hi; exact ph_VI_s (by omega) (ok i (by omega)) (ph_SI_all c ok r (i + 1) (by omega)) (ih (i + 1) (by omega))
end
/-- an array of rows of 24, with m places of row i written by f -/
def ph_wr (e : Nat → Int32) (i : Nat) (f : Nat → Int32) (m j : Nat) : Int32 := if 24 * i ≤ j ∧ j < 24 * i + m then f (j - 24 * i) else e j
theorem ph_wr_0 (e : Nat → Int32) (i : Nat) (f : Nat → Int32) : ph_wr e i f 0 = e := by
  funext j; unfold ph_wr; rw [if_neg (by omega)]
theorem ph_wr_s (e : Nat → Int32) (i : Nat) (f : Nat → Int32) (m : Nat) : upd (ph_wr e i f m) (24 * i + m) (f m) = ph_wr e i f (m + 1) := by
  funext j
  by_cases h : j = 24 * i + m
  · subst h; rw [pk_us]; unfold ph_wr; rw [if_pos (by omega), show 24 * i + m - 24 * i = m by omega]
  · rw [pk_un h]; unfold ph_wr
    by_cases z : 24 * i ≤ j ∧ j < 24 * i + m
    · rw [if_pos z, if_pos (by omega)]
    · rw [if_neg z, if_neg (by omega)]
theorem ph_wr_o {e : Nat → Int32} {i : Nat} {f : Nat → Int32} {m s b : Nat} (hm : m ≤ 24) (hs : s ≠ i) (hb : b < 24) : ph_wr e i f m (24 * s + b) = e (24 * s + b) := by
  unfold ph_wr; rw [if_neg (by omega)]
theorem ph_wr_i {e : Nat → Int32} {i : Nat} {f : Nat → Int32} {b : Nat} (hb : b < 24) : ph_wr e i f 24 (24 * i + b) = f b := by
  unfold ph_wr; rw [if_pos (by omega), show 24 * i + b - 24 * i = b by omega]
end
section
/-! ===== X: findWord, findEither, findWithin, findThen, hasSpan ===== -/
section
variable {post : SX → Prop} {f sd cd : Int32} {wd ln q np tr eb : Nat → Int32} {n d i s t k : Nat} {g sv tv : Nat → Int32}
theorem ph_fw43 {J : Int32 → (Nat → Int32) → (Nat → Int32) → (Nat → Int32) → (Nat → Int32) → (Nat → Int32) → (Nat → Int32) → Prop} {b : Nat} (hi : i < 12) (hb : b < 24) (h : J (nI (b + 1)) wd ln q np tr (upd eb (24 * i + b) 0)) :
    wX_findWord_43 post J (nI i) (nI d) (nI b) 0 f sd cd wd ln q np tr eb := by
  unfold wX_findWord_43
  rw [ph_ix i b, nI_clamp (n := 24 * i + b) (by omega)]
  exact br_t rfl ⟨vp_in_nI (by omega) (by decide), nm_e (nm_r (nI_1 b) h)⟩
theorem ph_fw431 {J : Int32 → (Nat → Int32) → (Nat → Int32) → (Nat → Int32) → (Nat → Int32) → (Nat → Int32) → (Nat → Int32) → Prop} {b : Nat} (hi : i < 12) (hb : b < 24) (h : J (nI (b + 1)) wd ln q np tr (upd eb (24 * i + b) ((1 : Int32) <<< (nI b &&& 31)))) :
    wX_findWord_43 post J (nI i) (nI d) (nI b) 1 f sd cd wd ln q np tr eb := by
  unfold wX_findWord_43
  rw [ph_ix i b, nI_clamp (n := 24 * i + b) (by omega)]
  exact br_f (by decide) ⟨vp_in_nI (by omega) (by decide), nm_e (nm_r (nI_1 b) h)⟩
theorem ph_fw2 (R : ph_R n wd ln q) (hd : d < 6) (hi : i < 12) (hg : ∀ b, b < 24 → g b = ph_wrow wd (24 * d) (ph_l ln d) (q i) b) (H : post (f, sd, cd, wd, ln, q, upd np i (nI (i + 1)), tr, ph_wr eb i g 24)) :
    ∀ r b, b + r = 24 → wX_findWord_2 post (nI i) (nI d) f sd cd (r + 1) (nI b) wd ln q np tr (ph_wr eb i g b) := by
  obtain ⟨hl, el, _⟩ := ph_R_l R hd
  intro r
  induction r with
  | zero =>
    intro b hb
    have e : b = 24 := by omega
    subst e
    rw [wX_findWord_2]
    dsimp only
    rw [nI_clamp (n := i) (by omega), nI_1]
    exact br_t (nI_le (a := 24) (b := 24) (by omega) (by decide)) ⟨vp_in_nI (by omega) (by decide), nm_e H⟩
  | succ r ih =>
    intro b hb
    have j := ih (b + 1) (by omega)
    rw [← ph_wr_s, hg b (by omega)] at j
    rw [wX_findWord_2]
    dsimp only
    rw [nI_clamp (n := d) (by omega), nI_clamp (n := i) (by omega), el, ph_ix d b, nI_clamp (n := 24 * d + b) (by omega)]
    refine br_f (nI_ge (b := 24) (by omega) (by decide)) ⟨vp_in_nI hd (by decide), pk_le (ph_l ln d) b (fun z => ?_) (fun z => ⟨vp_in_nI (by omega) (by decide), vp_in_nI hi (by decide), br_c (fun y => ?_) (fun y => ?_)⟩)⟩
    · rw [show ph_wrow wd (24 * d) (ph_l ln d) (q i) b = 0 from if_neg (fun y => by omega)] at j
      exact ph_fw43 hi (by omega) j
    · rw [show ph_wrow wd (24 * d) (ph_l ln d) (q i) b = (1 : Int32) <<< (nI b &&& 31) from if_pos ⟨z, y⟩] at j
      exact ph_fw431 hi (by omega) j
    · rw [show ph_wrow wd (24 * d) (ph_l ln d) (q i) b = 0 from if_neg (fun x => y x.2)] at j
      exact ph_fw43 hi (by omega) j
theorem ph_fw (R : ph_R n wd ln q) (hd : d < 6) (hi : i < 12) (hg : ∀ b, b < 24 → g b = ph_wrow wd (24 * d) (ph_l ln d) (q i) b) (H : post (f, sd, cd, wd, ln, q, upd np i (nI (i + 1)), tr, ph_wr eb i g 24)) :
    wpX_findWord post (f, sd, cd, wd, ln, q, np, tr, eb) (nI i) (nI d) := by
  unfold wpX_findWord
  dsimp only
  have h := ph_fw2 R hd hi hg H 24 0 (by omega)
  rw [ph_wr_0] at h
  exact ⟨25, h⟩
theorem ph_fe3 (hi : i < 12) (hs : s ≤ 12) (ht : t ≤ 12) (si : s ≠ i) (ti : t ≠ i) (hg : ∀ b, b < 24 → g b = eb (24 * s + b) ||| eb (24 * t + b)) (H : post (f, sd, cd, wd, ln, q, np, tr, ph_wr eb i g 24)) :
    ∀ r b, b + r = 24 → wX_findEither_3 post (nI i) (nI s) (nI t) f sd cd (r + 1) (nI b) wd ln q np tr (ph_wr eb i g b) := by
  intro r
  induction r with
  | zero =>
    intro b hb
    have e : b = 24 := by omega
    subst e
    rw [wX_findEither_3]
    exact br_t (nI_le (a := 24) (b := 24) (by omega) (by decide)) H
  | succ r ih =>
    intro b hb
    have j := ih (b + 1) (by omega)
    rw [← ph_wr_s, hg b (by omega)] at j
    rw [wX_findEither_3]
    dsimp only
    rw [ph_ix i b, ph_ix s b, ph_ix t b, nI_clamp (n := 24 * i + b) (by omega), nI_clamp (n := 24 * s + b) (by omega), nI_clamp (n := 24 * t + b) (by omega), ph_wr_o (s := s) (by omega) si (by omega), ph_wr_o (s := t) (by omega) ti (by omega)]
    exact br_f (nI_ge (b := 24) (by omega) (by decide)) ⟨vp_in_nI (by omega) (by decide), vp_in_nI (by omega) (by decide), vp_in_nI (by omega) (by decide), nm_e (nm_r (nI_1 b) j)⟩
theorem ph_fe (hi : i < 12) (hs : s ≤ 12) (ht : t ≤ 12) (si : s ≠ i) (ti : t ≠ i) (hg : ∀ b, b < 24 → g b = eb (24 * s + b) ||| eb (24 * t + b)) (H : post (f, sd, cd, wd, ln, q, np, tr, ph_wr eb i g 24)) :
    wpX_findEither post (f, sd, cd, wd, ln, q, np, tr, eb) (nI i) (nI s) (nI t) := by
  unfold wpX_findEither
  dsimp only
  have h := ph_fe3 hi hs ht si ti hg H 24 0 (by omega)
  rw [ph_wr_0] at h
  exact ⟨25, h⟩
theorem ph_up4 {p : Int32 → Prop} {x : Int32} (H : p (ph_fill x 24)) : ∀ r m, m + r = 24 → wX_upToHighestBit_4 p x (r + 1) (ph_fill x m) (nI m) := by
  intro r
  induction r with
  | zero =>
    intro m hm
    have e : m = 24 := by omega
    subst e
    rw [wX_upToHighestBit_4]
    exact br_t (nI_le (a := 24) (b := 24) (by omega) (by decide)) H
  | succ r ih =>
    intro m hm
    have j := ih (m + 1) (by omega)
    rw [wX_upToHighestBit_4]
    dsimp only
    refine br_f (nI_ge (b := 24) (by omega) (by decide)) (br_c (fun z => ?_) (fun z => ?_))
    · rw [show ph_fill x (m + 1) = ph_fill x m from if_pos z] at j
      exact nm_r (nI_1 m) j
    · rw [show ph_fill x (m + 1) = ph_fill x m ||| ((1 : Int32) <<< (nI m &&& 31)) from if_neg z] at j
      exact nm_e (nm_r (nI_1 m) j)
theorem ph_up {p : Int32 → Prop} {x : Int32} (H : p (ph_fill x 24)) : wpX_upToHighestBit p x := by
  unfold wpX_upToHighestBit
  exact ⟨25, ph_up4 H 24 0 (by omega)⟩
theorem ph_fi6 (hi : i < 12) (hs : s ≤ 12) (ht : t ≤ 12) (si : s ≠ i) (ti : t ≠ i) (ev : ∀ b, b < 24 → eb (24 * t + b) = tv b) (hg : ∀ b, b < 24 → g b = eb (24 * s + b) &&& ph_reach tv (b + 1)) (H : post (f, sd, cd, wd, ln, q, np, tr, ph_wr eb i g 24)) :
    ∀ r b, b + r = 24 → wX_findWithin_6 post (nI i) (nI s) (nI t) f sd cd (r + 1) (ph_reach tv b) (nI b) wd ln q np tr (ph_wr eb i g b) := by
  intro r
  induction r with
  | zero =>
    intro b hb
    have e : b = 24 := by omega
    subst e
    rw [wX_findWithin_6]
    exact br_t (nI_le (a := 24) (b := 24) (by omega) (by decide)) H
  | succ r ih =>
    intro b hb
    have j := ih (b + 1) (by omega)
    rw [← ph_wr_s, hg b (by omega)] at j
    rw [wX_findWithin_6]
    dsimp only
    rw [ph_ix i b, ph_ix s b, ph_ix t b, nI_clamp (n := 24 * i + b) (by omega), nI_clamp (n := 24 * s + b) (by omega), nI_clamp (n := 24 * t + b) (by omega), ph_wr_o (s := s) (by omega) si (by omega), ph_wr_o (s := t) (by omega) ti (by omega), ev b (by omega)]
    refine br_f (nI_ge (b := 24) (by omega) (by decide)) ⟨vp_in_nI (by omega) (by decide), ph_up ?_⟩
    exact nm_e ⟨vp_in_nI (by omega) (by decide), vp_in_nI (by omega) (by decide), nm_e (nm_r (nI_1 b) j)⟩
theorem ph_fi (hi : i < 12) (hs : s ≤ 12) (ht : t ≤ 12) (si : s ≠ i) (ti : t ≠ i) (ev : ∀ b, b < 24 → eb (24 * t + b) = tv b) (hg : ∀ b, b < 24 → g b = eb (24 * s + b) &&& ph_reach tv (b + 1)) (H : post (f, sd, cd, wd, ln, q, np, tr, ph_wr eb i g 24)) :
    wpX_findWithin post (f, sd, cd, wd, ln, q, np, tr, eb) (nI i) (nI s) (nI t) := by
  unfold wpX_findWithin
  dsimp only
  have h := ph_fi6 hi hs ht si ti ev hg H 24 0 (by omega)
  rw [ph_wr_0] at h
  exact ⟨25, h⟩
theorem ph_24k (hk : k ≤ 24) : (24 : Int32) - nI k = nI (24 - k) := by
  show nI 24 - nI k = _
  exact pk_sub hk
theorem ph_ft16 {J : Int32 → (Nat → Int32) → (Nat → Int32) → (Nat → Int32) → (Nat → Int32) → (Nat → Int32) → (Nat → Int32) → Prop} {b : Nat} (hi : i < 12) (hs : s ≤ 12) (ht : t ≤ 12) (hk : k ≤ 4) (hb : b < 24) {x : Int32}
    (es : eb (24 * s + b) = x) (et : ∀ c, c < 24 → eb (24 * t + c) = tv c) (H : J (nI (b + 1)) wd ln q np tr (upd eb (24 * i + b) (ph_then x tv k (24 - k)))) :
    ∀ r e, e + r = 24 - k → wX_findThen_16 post J (nI i) (nI s) (nI t) (nI k) (nI b) f sd cd wd ln q np tr eb (r + 1) (ph_then x tv k e) (nI e) := by
  intro r
  induction r with
  | zero =>
    intro e he
    have e' : e = 24 - k := by omega
    rw [wX_findThen_16]
    dsimp only
    rw [ph_24k (by omega), ph_ix i b, nI_clamp (n := 24 * i + b) (by omega), e']
    exact pk_le (24 - k) (24 - k) (fun _ => ⟨vp_in_nI (by omega) (by decide), nm_e (nm_r (nI_1 b) H)⟩) (fun z => absurd z (by omega))
  | succ r ih =>
    intro e he
    have j := ih (e + 1) (by omega)
    rw [wX_findThen_16]
    dsimp only
    rw [ph_24k (by omega), ph_ix s b, ph_ix t e, nI_add, nI_clamp (n := 24 * s + b) (by omega), nI_clamp (n := 24 * t + e + k) (by omega), es, show 24 * t + e + k = 24 * t + (e + k) by omega, et (e + k) (by omega)]
    refine pk_le (24 - k) e (fun z => absurd z (by omega)) (fun _ => ⟨vp_in_nI (by omega) (by decide), br_c (fun z => ⟨vp_in_nI (by omega) (by decide), ?_⟩) (fun z => ?_)⟩)
    · rw [show ph_then x tv k (e + 1) = ph_then x tv k e ||| tv (e + k) from if_pos z] at j
      exact nm_e (nm_r (nI_1 e) j)
    · rw [show ph_then x tv k (e + 1) = ph_then x tv k e from if_neg z] at j
      exact nm_r (nI_1 e) j
theorem ph_ft3 (hi : i < 12) (hs : s ≤ 12) (ht : t ≤ 12) (hk : k ≤ 4) (si : s ≠ i) (ti : t ≠ i) (ev : ∀ b, b < 24 → eb (24 * t + b) = tv b) (hg : ∀ b, b < 24 → g b = ph_then (eb (24 * s + b)) tv k (24 - k)) (H : post (f, sd, cd, wd, ln, q, np, tr, ph_wr eb i g 24)) :
    ∀ r b, b + r = 24 → wX_findThen_3 post (nI i) (nI s) (nI t) (nI k) f sd cd (r + 1) (nI b) wd ln q np tr (ph_wr eb i g b) := by
  intro r
  induction r with
  | zero =>
    intro b hb
    have e : b = 24 := by omega
    subst e
    rw [wX_findThen_3]
    exact br_t (nI_le (a := 24) (b := 24) (by omega) (by decide)) H
  | succ r ih =>
    intro b hb
    have j := ih (b + 1) (by omega)
    rw [← ph_wr_s, hg b (by omega)] at j
    rw [wX_findThen_3]
    dsimp only
    refine br_f (nI_ge (b := 24) (by omega) (by decide)) ⟨24 - k + 1, ?_⟩
    exact ph_ft16 (tv := tv) hi hs ht hk (by omega) (ph_wr_o (by omega) si (by omega)) (fun c hc => (ph_wr_o (by omega) ti hc).trans (ev c hc)) j (24 - k) 0 (by omega)
theorem ph_ft (hi : i < 12) (hs : s ≤ 12) (ht : t ≤ 12) (hk : k ≤ 4) (si : s ≠ i) (ti : t ≠ i) (ev : ∀ b, b < 24 → eb (24 * t + b) = tv b) (hg : ∀ b, b < 24 → g b = ph_then (eb (24 * s + b)) tv k (24 - k)) (H : post (f, sd, cd, wd, ln, q, np, tr, ph_wr eb i g 24)) :
    wpX_findThen post (f, sd, cd, wd, ln, q, np, tr, eb) (nI i) (nI s) (nI t) (nI k) := by
  unfold wpX_findThen
  dsimp only
  have h := ph_ft3 hi hs ht hk si ti ev hg H 24 0 (by omega)
  rw [ph_wr_0] at h
  exact ⟨25, h⟩
theorem ph_or0 {x y : Int32} : x ||| y = 0 ↔ x = 0 ∧ y = 0 := by
  constructor
  · intro h
    have B : ∀ i, (bt x i || bt y i) = false := fun i => by rw [← b_or, h, b_0]
    exact ⟨b_ext (fun i _ => by rw [b_0]; exact (Bool.or_eq_false_iff.mp (B i)).1), b_ext (fun i _ => by rw [b_0]; exact (Bool.or_eq_false_iff.mp (B i)).2)⟩
  · intro ⟨a, b⟩; rw [a, b]; rfl
theorem ph_all_0 {r : Nat → Int32} : ∀ m, ph_all r m = 0 ↔ ∀ c, c < m → r c = 0 := by
  intro m
  induction m with
  | zero => exact ⟨fun _ c hc => by omega, fun _ => rfl⟩
  | succ m ih =>
    show ph_all r m ||| r m = 0 ↔ _
    rw [ph_or0, ih]
    constructor
    · intro ⟨a, b⟩ c hc
      by_cases z : c = m
      · subst z; exact b
      · exact a c (by omega)
    · intro h
      exact ⟨fun c hc => h c (by omega), h m (by omega)⟩
theorem ph_hs2 {p : Int32 → Prop} (hs : s ≤ 12) (ev : ∀ b, b < 24 → eb (24 * s + b) = sv b) (H : p (if ph_all sv 24 = 0 then 0 else 1)) :
    ∀ r b, b + r = 24 → (∀ c, c < b → sv c = 0) → wX_hasSpan_2 p (nI s) f sd cd wd ln q np tr eb (r + 1) (nI b) := by
  intro r
  induction r with
  | zero =>
    intro b hb h0
    have e : b = 24 := by omega
    subst e
    rw [if_pos ((ph_all_0 24).mpr h0)] at H
    rw [wX_hasSpan_2]
    exact br_t (nI_le (a := 24) (b := 24) (by omega) (by decide)) H
  | succ r ih =>
    intro b hb h0
    rw [wX_hasSpan_2]
    dsimp only
    rw [ph_ix s b, nI_clamp (n := 24 * s + b) (by omega), ev b (by omega)]
    refine br_f (nI_ge (b := 24) (by omega) (by decide)) ⟨vp_in_nI (by omega) (by decide), br_c (fun z => ?_) (fun z => ?_)⟩
    · refine nm_r (nI_1 b) (ih (b + 1) (by omega) (fun c hc => ?_))
      by_cases y : c = b
      · subst y; exact z
      · exact h0 c (by omega)
    · rw [if_neg (fun y => z ((ph_all_0 24).mp y b (by omega)))] at H
      exact H
theorem ph_hs {p : Int32 → Prop} (hs : s ≤ 12) (ev : ∀ b, b < 24 → eb (24 * s + b) = sv b) (H : p (if ph_all sv 24 = 0 then 0 else 1)) :
    wpX_hasSpan p (f, sd, cd, wd, ln, q, np, tr, eb) (nI s) := by
  unfold wpX_hasSpan
  dsimp only
  exact ⟨25, ph_hs2 hs ev H 24 0 (by omega) (fun c hc => by omega)⟩
end
end
section
/-! ===== X: the invariant of evaluate, its steps, findCombined, decide, evaluate ===== -/
def ph_XI (wd : Nat → Int32) (o L : Nat) (q : Nat → Int32) (n i : Nat) (np tr eb : Nat → Int32) : Prop :=
  (∀ j, j < (ph_c q i).1 + (ph_c q i).2 → np (ph_S wd o L q n i j) = nI (ph_S wd o L q n i (j + 1))) ∧
  (∀ j, i ≤ j → j < n → ph_t q j ≤ 18 → ∀ b, b < 24 → eb (24 * j + b) = ph_V wd o L q n i j b) ∧
  (∀ j, i ≤ j → j < n → 20 ≤ ph_t q j → tr j = ph_V wd o L q n i j 0)
section
variable {wd q np tr eb : Nat → Int32} {o L n i : Nat}
theorem ph_XI_np (h : i < n) (ok : ph_ok q i) (H : ph_SI wd o L q n (i + 1))
    (c : ∀ j, j < (ph_c q (i + 1)).1 + (ph_c q (i + 1)).2 → np (ph_S wd o L q n (i + 1) j) = nI (ph_S wd o L q n (i + 1) (j + 1))) :
    ∀ j, j < (ph_c q i).1 + (ph_c q i).2 → upd np i (nI (ph_S wd o L q n (i + 1) (ph_par (ph_t q i)))) (ph_S wd o L q n i j) = nI (ph_S wd o L q n i (j + 1)) := by
  intro j hj
  have K := ph_kinds ok
  obtain ⟨h1, h2, _, _⟩ := H
  rw [ph_S_s h]
  generalize ph_S wd o L q n (i + 1) = st at *
  generalize ph_par (ph_t q i) = p at *
  generalize ph_c q (i + 1) = c' at *
  generalize ph_c q i = c'' at *
  cases j with
  | zero =>
    rw [ph_push_s, Nat.zero_add]
    exact pk_us
  | succ j =>
    rw [ph_push_s, ph_push_s, pk_un (by have := h2 (j + p); omega), c (j + p) (by omega), show j + 1 + p = j + p + 1 by omega]
theorem ph_XI_sp (h : i < n) (ok : ph_ok q i) (H : ph_SI wd o L q n (i + 1)) (X : ph_XI wd o L q n (i + 1) np tr eb) (ht : ph_t q i ≤ 18) :
    ph_XI wd o L q n i (upd np i (nI (ph_S wd o L q n (i + 1) (ph_par (ph_t q i))))) tr (ph_wr eb i (ph_V wd o L q n i i) 24) := by
  obtain ⟨x1, x2, x3⟩ := X
  refine ⟨ph_XI_np h ok H x1, fun j hj hj2 hj3 b hb => ?_, fun j hj hj2 hj3 => ?_⟩
  · by_cases z : j = i
    · subst z; exact ph_wr_i hb
    · rw [ph_wr_o (by omega) z hb, ph_V_j h z]; exact x2 j (by omega) hj2 hj3 b hb
  · by_cases z : j = i
    · subst z; omega
    · rw [ph_V_j h z]; exact x3 j (by omega) hj2 hj3
theorem ph_XI_co (h : i < n) (ok : ph_ok q i) (H : ph_SI wd o L q n (i + 1)) (X : ph_XI wd o L q n (i + 1) np tr eb) (ht : 20 ≤ ph_t q i) :
    ph_XI wd o L q n i (upd np i (nI (ph_S wd o L q n (i + 1) (ph_par (ph_t q i))))) (upd tr i (ph_V wd o L q n i i 0)) eb := by
  obtain ⟨x1, x2, x3⟩ := X
  refine ⟨ph_XI_np h ok H x1, fun j hj hj2 hj3 b hb => ?_, fun j hj hj2 hj3 => ?_⟩
  · by_cases z : j = i
    · subst z; omega
    · rw [ph_V_j h z]; exact x2 j (by omega) hj2 hj3 b hb
  · by_cases z : j = i
    · subst z; exact pk_us
    · rw [pk_un z, ph_V_j h z]; exact x3 j (by omega) hj2 hj3
end
section
variable {post : SX → Prop} {f sd cd : Int32} {wd ln q np tr eb : Nat → Int32} {n i : Nat} {o L : Nat}
theorem ph_fc65 {t a : Nat} (hi : i < 12) (ht : t ≤ 12) (e : np t = nI a) (H : post (f, sd, cd, wd, ln, q, upd np i (nI a), tr, eb)) : wX_findCombined_65 post (nI i) (nI t) f sd cd wd ln q np tr eb := by
  unfold wX_findCombined_65
  rw [nI_clamp (n := i) (by omega), nI_clamp (n := t) (by omega), e]
  exact ⟨vp_in_nI (by omega) (by decide), vp_in_nI (by omega) (by decide), nm_e H⟩
theorem ph_fc (hn : n ≤ 12) (h : i < n) (ok : ph_ok q i) (S : ph_SI wd o L q n (i + 1)) (X : ph_XI wd o L q n (i + 1) np tr eb) (h12 : 12 ≤ ph_t q i) (h18 : ph_t q i ≤ 18)
    (H : post (f, sd, cd, wd, ln, q, upd np i (nI (ph_S wd o L q n (i + 1) (ph_par (ph_t q i)))), tr, ph_wr eb i (ph_V wd o L q n i i) 24)) :
    wpX_findCombined post (f, sd, cd, wd, ln, q, np, tr, eb) (nI i) := by
  have K := ph_kinds ok
  have c2 : 2 ≤ (ph_c q (i + 1)).1 := by omega
  rw [show ph_par (ph_t q i) = 2 by omega] at H
  obtain ⟨h1, h2, h3, h4⟩ := S
  obtain ⟨x1, x2, x3⟩ := X
  have n0 : np (ph_S wd o L q n (i + 1) 0) = nI (ph_S wd o L q n (i + 1) 1) := x1 0 (by omega)
  have n1 : np (ph_S wd o L q n (i + 1) 1) = nI (ph_S wd o L q n (i + 1) 2) := x1 1 (by omega)
  obtain ⟨s1, s2⟩ := h3 0 (by omega)
  obtain ⟨t1, t2⟩ := h3 1 (by omega)
  have sv := x2 _ (h2 0).1 s1 s2
  have tv := x2 _ (h2 1).1 t1 t2
  have gi := fun b => ph_V_i (wd := wd) (o := o) (L := L) (q := q) h b
  have t0 := (h2 1).1
  rw [h1] at n0 sv gi s1
  generalize ph_S wd o L q n (i + 1) 1 = t at *
  generalize ph_S wd o L q n (i + 1) 2 = a at *
  generalize ph_V wd o L q n (i + 1) = V at *
  have hh := ok.1
  unfold wpX_findCombined
  dsimp only
  rw [nI_clamp (n := i) (by omega), hh]
  refine ⟨vp_in_nI (by omega) (by decide), nm_e (nm_r (nI_1 i) ⟨vp_in_nI (by omega) (by decide), ?_⟩)⟩
  rw [nI_clamp (n := i + 1) (by omega), n0]
  refine nm_e (pk_eq (ph_t q i) 12 (fun z => ?_) (fun z => pk_eq (ph_t q i) 18 (fun y => ?_) (fun y => ?_)))
  · refine ph_fe (by omega) (by omega) (by omega) (by omega) (by omega) (g := ph_V wd o L q n i i) (fun b hb => ?_) (ph_fc65 (by omega) (by omega) n1 H)
    rw [gi b, ph_row_o z, sv b hb, tv b hb]
  · refine ph_fi (by omega) (by omega) (by omega) (by omega) (by omega) (g := ph_V wd o L q n i i) tv (fun b hb => ?_) (ph_fc65 (by omega) (by omega) n1 H)
    rw [gi b, ph_row_i y, sv b hb]
  · rw [show nI (ph_t q i) - 13 = nI (ph_t q i - 13) from pk_sub (b := 13) (by omega)]
    refine ph_ft (by omega) (by omega) (by omega) (by omega) (by omega) (by omega) (g := ph_V wd o L q n i i) tv (fun b hb => ?_) (ph_fc65 (by omega) (by omega) n1 H)
    rw [gi b, ph_row_t (by omega) (by omega), sv b hb]
theorem ph_nb0 : vp_nar .boolean 0 = 0 := rfl
theorem ph_nb1 : vp_nar .boolean 1 = 1 := rfl
theorem ph_d72 {a : Nat} {z : Int32} (hi : i < 12) (hz : z = 0 ∨ z = 1) (H : post (f, sd, cd, wd, ln, q, upd np i (nI a), upd tr i z, eb)) : wX_decide_72 post (nI i) (nI a) z (nI i) f sd cd wd ln q np tr eb := by
  unfold wX_decide_72
  have e : vp_nar .boolean z = z := by rcases hz with h | h <;> rw [h] <;> rfl
  rw [nI_clamp (n := i) (by omega), e]
  exact ⟨vp_in_nI (by omega) (by decide), nm_e ⟨vp_in_nI (by omega) (by decide), nm_e H⟩⟩
theorem ph_d119 {t a : Nat} {z : Int32} (hi : i < 12) (ht : t ≤ 12) (e : np t = nI a) (hz : z = 0 ∨ z = 1) (H : post (f, sd, cd, wd, ln, q, upd np i (nI a), upd tr i z, eb)) : wX_decide_119 post (nI i) (nI t) z (nI i) f sd cd wd ln q np tr eb := by
  unfold wX_decide_119
  have e2 : vp_nar .boolean z = z := by rcases hz with h | h <;> rw [h] <;> rfl
  rw [nI_clamp (n := i) (by omega), nI_clamp (n := t) (by omega), e, e2]
  exact ⟨vp_in_nI (by omega) (by decide), nm_e ⟨vp_in_nI (by omega) (by decide), vp_in_nI (by omega) (by decide), nm_e H⟩⟩
theorem ph_d165 {t a : Nat} {z : Int32} (hi : i < 12) (ht : t ≤ 12) (e : np t = nI a) (hz : z = 0 ∨ z = 1) (H : post (f, sd, cd, wd, ln, q, upd np i (nI a), upd tr i z, eb)) : wX_decide_165 post (nI i) (nI t) z (nI i) f sd cd wd ln q np tr eb := by
  unfold wX_decide_165
  have e2 : vp_nar .boolean z = z := by rcases hz with h | h <;> rw [h] <;> rfl
  rw [nI_clamp (n := i) (by omega), nI_clamp (n := t) (by omega), e, e2]
  exact ⟨vp_in_nI (by omega) (by decide), nm_e ⟨vp_in_nI (by omega) (by decide), vp_in_nI (by omega) (by decide), nm_e H⟩⟩
theorem ph_dc (hn : n ≤ 12) (h : i < n) (ok : ph_ok q i) (S : ph_SI wd o L q n (i + 1)) (W : ph_VI wd o L q n (i + 1)) (X : ph_XI wd o L q n (i + 1) np tr eb) (h20 : 20 ≤ ph_t q i)
    (H : post (f, sd, cd, wd, ln, q, upd np i (nI (ph_S wd o L q n (i + 1) (ph_par (ph_t q i)))), upd tr i (ph_V wd o L q n i i 0), eb)) :
    wpX_decide post (f, sd, cd, wd, ln, q, np, tr, eb) (nI i) := by
  have K := ph_kinds ok
  have T := ph_ok_le ok
  obtain ⟨h1, h2, h3, h4⟩ := S
  obtain ⟨x1, x2, x3⟩ := X
  have n0 : np (ph_S wd o L q n (i + 1) 0) = nI (ph_S wd o L q n (i + 1) 1) := x1 0 (by omega)
  rw [ph_V_i h 0] at H
  have hh := ok.1
  unfold wpX_decide
  dsimp only
  rw [nI_clamp (n := i) (by omega), hh]
  refine ⟨vp_in_nI (by omega) (by decide), nm_e (nm_r (nI_1 i) ⟨vp_in_nI (by omega) (by decide), ?_⟩)⟩
  have n0' := n0
  rw [h1] at n0'
  rw [nI_clamp (n := i + 1) (by omega), n0']
  have b1 := h2 1
  refine nm_e (pk_eq (ph_t q i) 23 (fun z => ?_) (fun z => pk_eq (ph_t q i) 22 (fun y => ?_) (fun y => ?_)))
  · obtain ⟨s1, s2⟩ := h3 0 (by omega)
    have sv := x2 _ (h2 0).1 s1 s2
    rw [h1] at sv s1
    rw [show ph_par (ph_t q i) = 1 by omega, ph_row_23 z, h1] at H
    refine ph_hs (by omega) sv ?_
    have e : vp_nar .boolean (if ph_all (ph_V wd o L q n (i + 1) (i + 1)) 24 = 0 then 0 else 1) = (if ph_all (ph_V wd o L q n (i + 1) (i + 1)) 24 = 0 then 0 else 1) := by split <;> rfl
    rw [e]
    exact ⟨vp_in_nI (by omega) (by decide), nm_e ⟨vp_in_nI (by omega) (by decide), nm_e H⟩⟩
  · obtain ⟨s1, s2⟩ := h4 0 (by omega) (by omega)
    have sv := x3 _ (h2 0).1 s1 s2
    have s01 := (W _ (h2 0).1 s1).2 s2
    rw [h1] at sv s1 s01
    rw [show ph_par (ph_t q i) = 1 by omega, ph_row_22 y, h1] at H
    rw [sv]
    refine ⟨vp_in_nI (by omega) (by decide), ?_⟩
    generalize ph_V wd o L q n (i + 1) (i + 1) 0 = x at *
    refine br_c (fun x0 => ?_) (fun x0 => ?_)
    · rw [if_neg (by rw [x0]; decide)] at H
      exact ph_d72 (by omega) (Or.inr rfl) H
    · rw [if_pos (s01.resolve_left x0)] at H
      exact ph_d72 (by omega) (Or.inl rfl) H
  · obtain ⟨s1, s2⟩ := h4 0 (by omega) (by omega)
    obtain ⟨t1, t2⟩ := h4 1 (by omega) (by omega)
    have n1 : np (ph_S wd o L q n (i + 1) 1) = nI (ph_S wd o L q n (i + 1) 2) := x1 1 (by omega)
    have sv := x3 _ (h2 0).1 s1 s2
    have tv := x3 _ (h2 1).1 t1 t2
    have s01 := (W _ (h2 0).1 s1).2 s2
    have t01 := (W _ (h2 1).1 t1).2 t2
    rw [h1] at sv s1 s01
    rw [show ph_par (ph_t q i) = 2 by omega] at H
    rw [sv, nI_clamp (n := ph_S wd o L q n (i + 1) 1) (by omega), tv]
    refine pk_eq (ph_t q i) 21 (fun w => ?_) (fun w => ?_)
    · rw [ph_row_21 w, h1] at H
      refine ⟨vp_in_nI (by omega) (by decide), ?_⟩
      generalize ph_V wd o L q n (i + 1) (i + 1) 0 = x at *
      generalize ph_V wd o L q n (i + 1) (ph_S wd o L q n (i + 1) 1) 0 = x' at *
      refine br_c (fun x0 => ⟨vp_in_nI (by omega) (by decide), br_c (fun y0 => ?_) (fun y0 => ?_)⟩) (fun x0 => ?_)
      · rw [if_neg (by rw [x0, y0]; decide)] at H
        exact ph_d119 (by omega) (by omega) n1 (Or.inl rfl) H
      · rw [if_pos (Or.inr (t01.resolve_left y0))] at H
        exact ph_d119 (by omega) (by omega) n1 (Or.inr rfl) H
      · rw [if_pos (Or.inl (s01.resolve_left x0))] at H
        exact ph_d119 (by omega) (by omega) n1 (Or.inr rfl) H
    · rw [ph_row_20 (by omega), h1] at H
      refine ⟨vp_in_nI (by omega) (by decide), ?_⟩
      generalize ph_V wd o L q n (i + 1) (i + 1) 0 = x at *
      generalize ph_V wd o L q n (i + 1) (ph_S wd o L q n (i + 1) 1) 0 = x' at *
      refine br_c (fun x0 => ?_) (fun x0 => ⟨vp_in_nI (by omega) (by decide), br_c (fun y0 => ?_) (fun y0 => ?_)⟩)
      · rw [if_neg (by rw [x0]; intro c; exact absurd c.1 (by decide))] at H
        exact ph_d165 (by omega) (by omega) n1 (Or.inl rfl) H
      · rw [if_neg (by rw [y0]; intro c; exact absurd c.2 (by decide))] at H
        exact ph_d165 (by omega) (by omega) n1 (Or.inl rfl) H
      · rw [if_pos ⟨s01.resolve_left x0, t01.resolve_left y0⟩] at H
        exact ph_d165 (by omega) (by omega) n1 (Or.inr rfl) H
end
/-- evaluate ends with the table -/
theorem ph_ev7 {post : SX → Prop} {sd cd : Int32} {wd ln q : Nat → Int32} {n d : Nat} (R : ph_R n wd ln q) (hd : d < 6) (C : (ph_c q n).1 + (ph_c q n).2 = 0)
    (H : ∀ np tr eb, ph_XI wd (24 * d) (ph_l ln d) q n 0 np tr eb → post (nI n, sd, cd, wd, ln, q, np, tr, eb)) :
    ∀ i, i ≤ n → ∀ np tr eb, ph_XI wd (24 * d) (ph_l ln d) q n i np tr eb → wX_evaluate_7 post (nI d) (i + 1) (nI i + (-1)) (nI n) sd cd wd ln q np tr eb := by
  have hn := R.1
  intro i
  induction i with
  | zero =>
    intro _ np tr eb X
    rw [wX_evaluate_7]
    exact br_t (by decide) (H np tr eb X)
  | succ i ih =>
    intro hi np tr eb X
    have ok := R.2.1 i (by omega)
    have S := ph_SI_all (wd := wd) (o := 24 * d) (L := ph_l ln d) C R.2.1 (n - (i + 1)) (i + 1) (by omega)
    have W := ph_VI_all (wd := wd) (o := 24 * d) (L := ph_l ln d) C R.2.1 (n - (i + 1)) (i + 1) (by omega)
    have T := ph_ok_le ok
    have hh := ok.1
    rw [wX_evaluate_7, pk_m1]
    dsimp only
    rw [nI_clamp (n := i) (by omega), hh]
    refine br_f (nI_pos (by omega)) ⟨vp_in_nI (by omega) (by decide), nm_e ?_⟩
    by_cases w : ph_t q i ≤ 11
    · refine ph_xw1 (by omega) (br_f (by decide) ?_)
      refine ph_fw R hd (by omega) (g := ph_V wd (24 * d) (ph_l ln d) q n i i) (fun b hb => by rw [ph_V_i (by omega), ph_row_w w]) ?_
      have Y := ph_XI_sp (by omega) ok S X (by omega)
      rw [ph_par_0 w, S.1] at Y
      exact nm_e (ih (by omega) _ _ _ Y)
    · refine ph_xw0 (Or.inr (nI_le (by omega) (by omega))) (br_t rfl ?_)
      by_cases v : ph_t q i ≤ 18
      · refine ph_xs1 (by omega) (br_f (by decide) (ph_fc hn (by omega) ok S X (by omega) v ?_))
        exact nm_e (ih (by omega) _ _ _ (ph_XI_sp (by omega) ok S X v))
      · have v2 : 20 ≤ ph_t q i := by have := ok.2; omega
        refine ph_xs0 (Or.inr (nI_le (by omega) (by omega))) (br_t rfl (ph_dc hn (by omega) ok S W X v2 ?_))
        exact nm_e (ih (by omega) _ _ _ (ph_XI_co (by omega) ok S X v2))
theorem ph_eX {post : SX → Prop} {sd cd : Int32} {wd ln q np tr eb : Nat → Int32} {n d : Nat} (R : ph_R n wd ln q) (hd : d < 6) (C : (ph_c q n).1 + (ph_c q n).2 = 0)
    (H : ∀ np tr eb, ph_XI wd (24 * d) (ph_l ln d) q n 0 np tr eb → post (nI n, sd, cd, wd, ln, q, np, tr, eb)) :
    wpX_evaluate post (nI n, sd, cd, wd, ln, q, np, tr, eb) (nI d) := by
  unfold wpX_evaluate
  dsimp only
  refine nm_r (e' := nI n + (-1)) (by rw [Int32.sub_eq_add_neg]) ⟨n + 1, ph_ev7 R hd C H n (Nat.le_refl n) np tr eb ?_⟩
  exact ⟨fun j hj => by omega, fun j hj hj2 => by omega, fun j hj hj2 => by omega⟩
end
section
/-! ===== Y: then, within, spansAt, some, work ===== -/
theorem ph_i24 (s : Nat) : 24 * nI s = nI (24 * s) := by
  rw [show (24 : Int32) = nI 24 from rfl, pk_mul]
section
variable {f : Int32} {sz wd q rw sk pl : Nat → Int32} {n d i s t k : Nat} {g sv tv : Nat → Int32}
theorem ph_yt6 {p : Int32 → Prop} {x : Int32} (ht : t < 12) (hk : k ≤ 4) (ev : ∀ c, c < 24 → rw (24 * t + c) = tv c) (H : p (ph_then x tv k (24 - k))) :
    ∀ r e, e + r = 24 - k → wY_then_6 p x (nI t) (nI k) f sz wd q rw sk pl (r + 1) (ph_then x tv k e) (nI e) := by
  intro r
  induction r with
  | zero =>
    intro e he
    have e' : e = 24 - k := by omega
    rw [wY_then_6]
    dsimp only
    rw [nI_add e k]
    refine pk_le 24 (e + k) (fun _ => ?_) (fun z => absurd z (by omega))
    rw [e']; exact H
  | succ r ih =>
    intro e he
    have j := ih (e + 1) (by omega)
    rw [wY_then_6]
    dsimp only
    rw [nI_add e k, ph_iy t e, nI_add (24 * t + e) k, nI_clamp (n := 24 * t + e + k) (by omega), show 24 * t + e + k = 24 * t + (e + k) by omega, ev (e + k) (by omega)]
    refine pk_le 24 (e + k) (fun z => absurd z (by omega)) (fun _ => br_c (fun z => ⟨vp_in_nI (by omega) (by decide), ?_⟩) (fun z => ?_))
    · rw [show ph_then x tv k (e + 1) = ph_then x tv k e ||| tv (e + k) from if_pos z] at j
      exact nm_e (nm_r (nI_1 e) j)
    · rw [show ph_then x tv k (e + 1) = ph_then x tv k e from if_neg z] at j
      exact nm_r (nI_1 e) j
theorem ph_yt {p : Int32 → Prop} {x : Int32} (ht : t < 12) (hk : k ≤ 4) (ev : ∀ c, c < 24 → rw (24 * t + c) = tv c) (H : p (ph_then x tv k (24 - k))) :
    wpY_then p (f, sz, wd, q, rw, sk, pl) x (nI t) (nI k) := by
  unfold wpY_then
  dsimp only
  exact ⟨24 - k + 1, ph_yt6 ht hk ev H (24 - k) 0 (by omega)⟩
theorem ph_yi14 {p : Int32 → Prop} {J : Int32 → Int32 → Prop} {b c : Nat} {acc x : Int32} (ht : t < 12) (hc : c < 24) (ev : rw (24 * t + c) = x) (H : J (ph_yin x acc 24) (nI (c + 1))) :
    ∀ r m, m + r = 24 → wY_within_14 p J (nI b) (nI t) (nI c) f sz wd q rw sk pl (r + 1) (ph_yin x acc m) (nI m) := by
  intro r
  induction r with
  | zero =>
    intro m hm
    have e : m = 24 := by omega
    subst e
    rw [wY_within_14]
    exact br_t (nI_le (a := 24) (b := 24) (by omega) (by decide)) (nm_r (nI_1 c) H)
  | succ r ih =>
    intro m hm
    have j := ih (m + 1) (by omega)
    rw [wY_within_14]
    dsimp only
    rw [ph_iy t c, nI_clamp (n := 24 * t + c) (by omega), ev]
    refine br_f (nI_ge (b := 24) (by omega) (by decide)) ⟨vp_in_nI (by omega) (by decide), br_c (fun z => ?_) (fun z => ?_)⟩
    · rw [show ph_yin x acc (m + 1) = ph_yin x acc m ||| (((2 : Int32) <<< (nI m &&& 31)) - 1) from if_pos z] at j
      exact nm_e (nm_r (nI_1 m) j)
    · rw [show ph_yin x acc (m + 1) = ph_yin x acc m from if_neg z] at j
      exact nm_r (nI_1 m) j
theorem ph_yi5 {p : Int32 → Prop} {b : Nat} (ht : t < 12) (hb : b < 24) (ev : ∀ c, c < 24 → rw (24 * t + c) = tv c) (H : p (ph_yw tv (b + 1))) :
    ∀ r c, c + r = b + 1 → wY_within_5 p (nI b) (nI t) f sz wd q rw sk pl (r + 1) (ph_yw tv c) (nI c) := by
  intro r
  induction r with
  | zero =>
    intro c hc
    have e : c = b + 1 := by omega
    subst e
    rw [wY_within_5]
    exact br_t (nI_lt (by omega) (by omega)) H
  | succ r ih =>
    intro c hc
    have j := ih (c + 1) (by omega)
    rw [wY_within_5]
    dsimp only
    refine br_f (nI_nlt (by omega) (by omega)) ⟨25, ?_⟩
    exact ph_yi14 ht (by omega) (ev c (by omega)) j 24 0 (by omega)
theorem ph_yi {p : Int32 → Prop} {b : Nat} (ht : t < 12) (hb : b < 24) (ev : ∀ c, c < 24 → rw (24 * t + c) = tv c) (lo : ∀ c, c < 24 → ph_lo (tv c)) (H : p (ph_reach tv (b + 1))) :
    wpY_within p (f, sz, wd, q, rw, sk, pl) (nI b) (nI t) := by
  rw [← ph_yw_reach tv (b + 1) (fun c hc => lo c (by omega))] at H
  unfold wpY_within
  dsimp only
  exact ⟨b + 1 + 1, ph_yi5 ht hb ev H (b + 1) 0 (by omega)⟩
theorem ph_ys4 {p : Int32 → Prop} (hs : s < 12) (ev : ∀ b, b < 24 → rw (24 * s + b) = sv b) (H : p (if ph_all sv 24 = 0 then 0 else 1)) :
    ∀ r b, b + r = 24 → wY_some_4 p (nI s) f sz wd q rw sk pl (r + 1) (ph_all sv b) (nI b) := by
  intro r
  induction r with
  | zero =>
    intro b hb
    have e : b = 24 := by omega
    subst e
    rw [wY_some_4]
    refine br_t (nI_le (a := 24) (b := 24) (by omega) (by decide)) (br_c (fun z => ?_) (fun z => ?_))
    · rw [if_pos z] at H; exact H
    · rw [if_neg z] at H; exact H
  | succ r ih =>
    intro b hb
    have j := ih (b + 1) (by omega)
    rw [wY_some_4]
    dsimp only
    rw [ph_iy s b, nI_clamp (n := 24 * s + b) (by omega), ev b (by omega)]
    exact br_f (nI_ge (b := 24) (by omega) (by decide)) ⟨vp_in_nI (by omega) (by decide), nm_e (nm_r (nI_1 b) j)⟩
theorem ph_ys {p : Int32 → Prop} (hs : s < 12) (ev : ∀ b, b < 24 → rw (24 * s + b) = sv b) (H : p (if ph_all sv 24 = 0 then 0 else 1)) :
    wpY_some p (f, sz, wd, q, rw, sk, pl) (nI s) := by
  unfold wpY_some
  dsimp only
  exact ⟨25, ph_ys4 hs ev H 24 0 (by omega)⟩
/-- a word's place -/
theorem ph_spw {p : Int32 → Prop} {b tk : Nat} {s t : Int32} (R : ph_R n wd sz q) (hd : d < 6) (hb : b < 24) (hk : tk ≤ 11) (H : p (ph_wrow wd (24 * d) (ph_l sz d) (nI tk) b)) :
    wpY_spansAt p (f, sz, wd, q, rw, sk, pl) (nI tk) s t (nI d) (nI b) := by
  obtain ⟨hl, el, _⟩ := ph_R_l R hd
  unfold wpY_spansAt
  dsimp only
  refine pk_lt 11 tk (fun z => absurd z (by omega)) (fun _ => ⟨vp_in_nI hd (by decide), ?_⟩)
  rw [nI_clamp (n := d) (by omega), el, ph_iy d b, nI_clamp (n := 24 * d + b) (by omega)]
  refine pk_le (ph_l sz d) b (fun z => ?_) (fun z => ⟨vp_in_nI (by omega) (by decide), br_c (fun y => ?_) (fun y => ?_)⟩)
  · rw [show ph_wrow wd (24 * d) (ph_l sz d) (nI tk) b = 0 from if_neg (fun y => by omega)] at H
    exact H
  · rw [show ph_wrow wd (24 * d) (ph_l sz d) (nI tk) b = (1 : Int32) <<< (nI b &&& 31) from if_pos ⟨z, y⟩] at H
    exact H
  · rw [show ph_wrow wd (24 * d) (ph_l sz d) (nI tk) b = 0 from if_neg (fun x => y x.2)] at H
    exact H
theorem ph_sp12 {p : Int32 → Prop} {b : Nat} {d : Int32} (hb : b < 24) (hs : s < 12) (ht : t < 12) (H : p (rw (24 * s + b) ||| rw (24 * t + b))) :
    wpY_spansAt p (f, sz, wd, q, rw, sk, pl) (nI 12) (nI s) (nI t) d (nI b) := by
  unfold wpY_spansAt
  dsimp only
  rw [ph_iy s b, ph_iy t b, nI_clamp (n := 24 * s + b) (by omega), nI_clamp (n := 24 * t + b) (by omega)]
  exact br_t (by decide) ⟨vp_in_nI (by omega) (by decide), nm_e (br_t rfl ⟨vp_in_nI (by omega) (by decide), H⟩)⟩
theorem ph_sp18 {p : Int32 → Prop} {b : Nat} {d : Int32} (hb : b < 24) (hs : s < 12) (ht : t < 12) (ev : ∀ c, c < 24 → rw (24 * t + c) = tv c) (lo : ∀ c, c < 24 → ph_lo (tv c)) (H : p (rw (24 * s + b) &&& ph_reach tv (b + 1))) :
    wpY_spansAt p (f, sz, wd, q, rw, sk, pl) (nI 18) (nI s) (nI t) d (nI b) := by
  unfold wpY_spansAt
  dsimp only
  rw [ph_iy s b, nI_clamp (n := 24 * s + b) (by omega)]
  exact br_t (by decide) ⟨vp_in_nI (by omega) (by decide), nm_e (br_f (by decide) (br_t rfl (ph_yi ht hb ev lo H)))⟩
theorem ph_spt {p : Int32 → Prop} {b tk : Nat} {d : Int32} (hb : b < 24) (hs : s < 12) (ht : t < 12) (h1 : 13 ≤ tk) (h2 : tk ≤ 17) (ev : ∀ c, c < 24 → rw (24 * t + c) = tv c) (H : p (ph_then (rw (24 * s + b)) tv (tk - 13) (24 - (tk - 13)))) :
    wpY_spansAt p (f, sz, wd, q, rw, sk, pl) (nI tk) (nI s) (nI t) d (nI b) := by
  unfold wpY_spansAt
  dsimp only
  rw [ph_iy s b, nI_clamp (n := 24 * s + b) (by omega), show nI tk - 13 = nI (tk - 13) from pk_sub (b := 13) h1]
  refine pk_lt 11 tk (fun _ => ⟨vp_in_nI (by omega) (by decide), nm_e (pk_eq tk 12 (fun z => absurd z (by omega)) (fun _ => pk_eq tk 18 (fun z => absurd z (by omega)) (fun _ => ?_)))⟩) (fun z => absurd z (by omega))
  exact ph_yt ht (by omega) ev H
end
def ph_YI (wd : Nat → Int32) (o L : Nat) (q : Nat → Int32) (n i : Nat) (rw sk : Nat → Int32) : Prop :=
  (∀ j, j < (ph_c q i).1 + (ph_c q i).2 → sk ((ph_c q i).1 + (ph_c q i).2 - 1 - j) = nI (ph_S wd o L q n i j)) ∧
  (∀ j, i ≤ j → j < n → ph_t q j ≤ 18 → ∀ b, b < 24 → rw (24 * j + b) = ph_V wd o L q n i j b) ∧
  (∀ j, i ≤ j → j < n → 20 ≤ ph_t q j → rw (24 * j) = ph_V wd o L q n i j 0)
section
variable {wd q rw sk : Nat → Int32} {o L n i : Nat}
theorem ph_YI_sk (h : i < n) (ok : ph_ok q i)
    (c : ∀ j, j < (ph_c q (i + 1)).1 + (ph_c q (i + 1)).2 → sk ((ph_c q (i + 1)).1 + (ph_c q (i + 1)).2 - 1 - j) = nI (ph_S wd o L q n (i + 1) j)) :
    ∀ j, j < (ph_c q i).1 + (ph_c q i).2 → upd sk ((ph_c q (i + 1)).1 + (ph_c q (i + 1)).2 - ph_par (ph_t q i)) (nI i) ((ph_c q i).1 + (ph_c q i).2 - 1 - j) = nI (ph_S wd o L q n i j) := by
  intro j hj
  have K := ph_kinds ok
  rw [ph_S_s h]
  generalize ph_S wd o L q n (i + 1) = st at *
  generalize ph_par (ph_t q i) = p at *
  generalize ph_c q (i + 1) = c' at *
  generalize ph_c q i = c'' at *
  cases j with
  | zero =>
    rw [show c''.1 + c''.2 - 1 - 0 = c'.1 + c'.2 - p by omega, pk_us]
    rfl
  | succ j =>
    rw [ph_push_s, pk_un (by omega), ← c (j + p) (by omega), show c''.1 + c''.2 - 1 - (j + 1) = c'.1 + c'.2 - 1 - (j + p) by omega]
theorem ph_YI_sp (h : i < n) (ok : ph_ok q i) (X : ph_YI wd o L q n (i + 1) rw sk) (ht : ph_t q i ≤ 18) :
    ph_YI wd o L q n i (ph_wr rw i (ph_V wd o L q n i i) 24) (upd sk ((ph_c q (i + 1)).1 + (ph_c q (i + 1)).2 - ph_par (ph_t q i)) (nI i)) := by
  obtain ⟨x1, x2, x3⟩ := X
  refine ⟨ph_YI_sk h ok x1, fun j hj hj2 hj3 b hb => ?_, fun j hj hj2 hj3 => ?_⟩
  · by_cases z : j = i
    · subst z; exact ph_wr_i hb
    · rw [ph_wr_o (by omega) z hb, ph_V_j h z]; exact x2 j (by omega) hj2 hj3 b hb
  · by_cases z : j = i
    · subst z; omega
    · rw [ph_V_j h z, ← x3 j (by omega) hj2 hj3]
      exact ph_wr_o (b := 0) (by omega) z (by omega)
theorem ph_YI_co (h : i < n) (ok : ph_ok q i) (X : ph_YI wd o L q n (i + 1) rw sk) (ht : 20 ≤ ph_t q i) :
    ph_YI wd o L q n i (upd rw (24 * i) (ph_V wd o L q n i i 0)) (upd sk ((ph_c q (i + 1)).1 + (ph_c q (i + 1)).2 - ph_par (ph_t q i)) (nI i)) := by
  obtain ⟨x1, x2, x3⟩ := X
  refine ⟨ph_YI_sk h ok x1, fun j hj hj2 hj3 b hb => ?_, fun j hj hj2 hj3 => ?_⟩
  · by_cases z : j = i
    · subst z; omega
    · rw [ph_V_j h z, pk_un (by omega)]; exact x2 j (by omega) hj2 hj3 b hb
  · by_cases z : j = i
    · subst z; exact pk_us
    · rw [pk_un (by omega), ph_V_j h z]; exact x3 j (by omega) hj2 hj3
end
end
section
/-! ===== Y: the loop of work ===== -/
section
variable {post : SY → Prop} {J : Int32 → Int32 → (Nat → Int32) → (Nat → Int32) → (Nat → Int32) → (Nat → Int32) → (Nat → Int32) → (Nat → Int32) → Prop} {f x1 : Int32} {sz wd q rw sk pl : Nat → Int32} {n d i s t m p : Nat} {g sv : Nat → Int32}
theorem ph_w257 (hm : m ≤ 12) (hp : p ≤ m) (hi : i < 12) (H : J (nI (m - p + 1)) (nI i + (-1)) sz wd q rw (upd sk (m - p) (nI i)) pl) : wY_work_257 post J x1 (nI m) (nI i) (nI p) f sz wd q rw sk pl := by
  unfold wY_work_257 wY_work_271
  rw [pk_sub hp, nI_clamp (n := m - p) (by omega)]
  exact br_f (nI_nlt hp (by omega)) ⟨vp_in_nI (by omega) (by decide), nm_e (nm_r (nI_1 _) (nm_e H))⟩
theorem ph_w192 {z : Int32} (hi : i < 12) (hz : z = 0 ∨ z = 1) (H : wY_work_257 post J x1 (nI m) (nI i) (nI p) f sz wd q (upd rw (24 * i) z) sk pl) : wY_work_192 post J x1 (nI m) (nI i) (nI p) z f sz wd q rw sk pl := by
  unfold wY_work_192 wY_work_212
  rw [ph_i24 i, nI_clamp (n := 24 * i) (by omega)]
  rcases hz with rfl | rfl
  · exact br_t rfl ⟨vp_in_nI (by omega) (by decide), nm_e H⟩
  · exact br_f (by decide) ⟨vp_in_nI (by omega) (by decide), nm_e H⟩
theorem ph_w114 {one two z : Int32} {tk : Nat} (hs : s < 12) (ev : tk = 23 → ∀ b, b < 24 → rw (24 * s + b) = sv b) (h20 : 20 ≤ tk) (h23 : tk ≤ 23)
    (z20 : tk = 20 → z = if one = 0 then 0 else if two = 0 then 0 else 1) (z21 : tk = 21 → z = if one = 0 then (if two = 0 then 0 else 1) else 1)
    (z22 : tk = 22 → z = if one = 0 then 1 else 0) (z23 : tk = 23 → z = if ph_all sv 24 = 0 then 0 else 1)
    (H : wY_work_192 post J x1 (nI m) (nI i) (nI p) z f sz wd q rw sk pl) : wY_work_114 post J x1 (nI m) (nI i) (nI tk) (nI p) (nI s) one two f sz wd q rw sk pl := by
  unfold wY_work_114 wY_work_137 wY_work_158
  refine pk_eq tk 20 (fun h => ?_) (fun h => pk_eq tk 21 (fun h1 => ?_) (fun h1 => pk_eq tk 22 (fun h2 => ?_) (fun h2 => ?_)))
  · rw [z20 h] at H
    refine br_c (fun a => ?_) (fun a => br_c (fun b => ?_) (fun b => ?_))
    · rw [if_pos a] at H; exact H
    · rw [if_neg a, if_pos b] at H; exact H
    · rw [if_neg a, if_neg b] at H; exact H
  · rw [z21 h1] at H
    refine br_c (fun a => br_c (fun b => ?_) (fun b => ?_)) (fun a => ?_)
    · rw [if_pos a, if_pos b] at H; exact H
    · rw [if_pos a, if_neg b] at H; exact H
    · rw [if_neg a] at H; exact H
  · rw [z22 h2] at H
    refine br_c (fun a => ?_) (fun a => ?_)
    · rw [if_pos a] at H; exact H
    · rw [if_neg a] at H; exact H
  · rw [z23 (by omega)] at H
    exact ph_ys hs (ev (by omega)) H
theorem ph_w65c {z : Int32} {tk : Nat} (hi : i < 12) (hs : s < 12) (ht : t < 12) (ev : tk = 23 → ∀ b, b < 24 → rw (24 * s + b) = sv b) (h20 : 20 ≤ tk) (h23 : tk ≤ 23) (hz : z = 0 ∨ z = 1)
    (z20 : tk = 20 → z = if rw (24 * s) = 1 ∧ rw (24 * t) = 1 then 1 else 0) (z21 : tk = 21 → z = if rw (24 * s) = 1 ∨ rw (24 * t) = 1 then 1 else 0)
    (z22 : tk = 22 → z = if rw (24 * s) = 1 then 0 else 1) (z23 : tk = 23 → z = if ph_all sv 24 = 0 then 0 else 1)
    (H : wY_work_257 post J x1 (nI m) (nI i) (nI p) f sz wd q (upd rw (24 * i) z) sk pl) : wY_work_65 post J x1 (nI m) (nI i) (nI tk) (nI p) (nI s) (nI t) f sz wd q rw sk pl := by
  have A := ph_w192 hi hz H
  unfold wY_work_65 wY_work_93
  rw [ph_i24 s, ph_i24 t, nI_clamp (n := 24 * s) (by omega), nI_clamp (n := 24 * t) (by omega)]
  refine pk_lt tk 20 (fun z => absurd z (by omega)) (fun _ => ⟨vp_in_nI (by omega) (by decide), br_c (fun a => ⟨vp_in_nI (by omega) (by decide), br_c (fun b => ?_) (fun b => ?_)⟩) (fun a => ⟨vp_in_nI (by omega) (by decide), br_c (fun b => ?_) (fun b => ?_)⟩)⟩)
  · refine ph_w114 hs ev h20 h23 (fun e => ?_) (fun e => ?_) (fun e => ?_) z23 A
    · rw [z20 e, if_pos ⟨a, b⟩]; rfl
    · rw [z21 e, if_pos (Or.inl a)]; rfl
    · rw [z22 e, if_pos a]; rfl
  · refine ph_w114 hs ev h20 h23 (fun e => ?_) (fun e => ?_) (fun e => ?_) z23 A
    · rw [z20 e, if_neg (fun y => b y.2)]; rfl
    · rw [z21 e, if_pos (Or.inl a)]; rfl
    · rw [z22 e, if_pos a]; rfl
  · refine ph_w114 hs ev h20 h23 (fun e => ?_) (fun e => ?_) (fun e => ?_) z23 A
    · rw [z20 e, if_neg (fun y => a y.1)]; rfl
    · rw [z21 e, if_pos (Or.inr b)]; rfl
    · rw [z22 e, if_neg a]; rfl
  · refine ph_w114 hs ev h20 h23 (fun e => ?_) (fun e => ?_) (fun e => ?_) z23 A
    · rw [z20 e, if_neg (fun y => a y.1)]; rfl
    · rw [z21 e, if_neg (fun y => y.elim a b)]; rfl
    · rw [z22 e, if_neg a]; rfl
theorem ph_w219 {x4 x5 x6 x7 : Int32} (hi : i < 12) (hg : ∀ b, b < 24 → ∀ P : Int32 → Prop, P (g b) → wpY_spansAt P (f, sz, wd, q, ph_wr rw i g b, sk, pl) x4 x6 x7 x1 (nI b))
    (H : wY_work_257 post J x1 (nI m) (nI i) x5 f sz wd q (ph_wr rw i g 24) sk pl) :
    ∀ r b, b + r = 24 → wY_work_219 post J x1 (nI m) (nI i) x4 x5 x6 x7 f (r + 1) (nI b) sz wd q (ph_wr rw i g b) sk pl := by
  intro r
  induction r with
  | zero =>
    intro b hb
    have e : b = 24 := by omega
    subst e
    rw [wY_work_219]
    exact br_t (nI_le (a := 24) (b := 24) (by omega) (by decide)) H
  | succ r ih =>
    intro b hb
    have j := ih (b + 1) (by omega)
    rw [← ph_wr_s] at j
    rw [wY_work_219]
    dsimp only
    refine br_f (nI_ge (b := 24) (by omega) (by decide)) (hg b (by omega) _ ?_)
    rw [ph_iy i b, nI_clamp (n := 24 * i + b) (by omega)]
    exact ⟨vp_in_nI (by omega) (by decide), nm_e (nm_r (nI_1 b) j)⟩
theorem ph_w65s {x6 x7 : Int32} {tk : Nat} (hi : i < 12) (hk : tk < 20) (hg : ∀ b, b < 24 → ∀ P : Int32 → Prop, P (g b) → wpY_spansAt P (f, sz, wd, q, ph_wr rw i g b, sk, pl) (nI tk) x6 x7 x1 (nI b))
    (H : wY_work_257 post J x1 (nI m) (nI i) (nI p) f sz wd q (ph_wr rw i g 24) sk pl) : wY_work_65 post J x1 (nI m) (nI i) (nI tk) (nI p) x6 x7 f sz wd q rw sk pl := by
  unfold wY_work_65
  have h := ph_w219 (m := m) hi hg H 24 0 (by omega)
  rw [ph_wr_0] at h
  exact pk_lt tk 20 (fun _ => ⟨25, h⟩) (fun z => absurd z (by omega))
/-- the top two of the stack -/
theorem ph_w46 {tk : Nat} (hm : m ≤ 12) (hs1 : 1 ≤ m → sk (m - 1) = nI s) (hs0 : m = 0 → s = 0) (ht2 : 2 ≤ m → sk (m - 2) = nI t) (ht1 : m < 2 → t = 0)
    (H : wY_work_65 post J x1 (nI m) (nI i) (nI tk) (nI p) (nI s) (nI t) f sz wd q rw sk pl) :
    ((nI m < 1 → (wY_work_46 post J x1 (nI m) (nI i) (nI tk) (nI p) 0 f sz wd q rw sk pl)) ∧ (¬ nI m < 1 → (vp_in (nI m - 1) 13 ∧ (wY_work_46 post J x1 (nI m) (nI i) (nI tk) (nI p) (sk (nI m - 1).toNatClampNeg) f sz wd q rw sk pl)))) := by
  have E : wY_work_46 post J x1 (nI m) (nI i) (nI tk) (nI p) (nI s) f sz wd q rw sk pl := by
    unfold wY_work_46
    refine pk_lt m 2 (fun h => ?_) (fun h => ?_)
    · rw [ht1 h] at H; exact H
    · rw [show nI m - 2 = nI (m - 2) from pk_sub (b := 2) h, nI_clamp (n := m - 2) (by omega), ht2 h]
      exact ⟨vp_in_nI (by omega) (by decide), H⟩
  refine pk_lt m 1 (fun h => ?_) (fun h => ?_)
  · rw [hs0 (by omega)] at E; exact E
  · rw [show nI m - 1 = nI (m - 1) from pk_sub (b := 1) h, nI_clamp (n := m - 1) (by omega), hs1 h]
    exact ⟨vp_in_nI (by omega) (by decide), E⟩
end
theorem ph_m_le {q : Nat → Int32} {n : Nat} (c : (ph_c q n).1 + (ph_c q n).2 = 0) (ok : ∀ i, i < n → ph_ok q i) : ∀ r i, i + r = n → (ph_c q i).1 + (ph_c q i).2 ≤ r := by
  intro r
  induction r with
  | zero => intro i hi; have e : i = n := by omega
            subst e; omega
  | succ r ih => intro i hi
                 have := ph_kinds (ok i (by omega))
                 have := ih (i + 1) (by omega)
                 omega
theorem ph_w9 {post : SY → Prop} {wd ln q pl : Nat → Int32} {n d : Nat} (R : ph_R n wd ln q) (hd : d < 6) (C : (ph_c q n).1 + (ph_c q n).2 = 0)
    (H : ∀ rw sk, ph_YI wd (24 * d) (ph_l ln d) q n 0 rw sk → post (nI n, ln, wd, q, rw, sk, pl)) :
    ∀ i, i ≤ n → ∀ rw sk, ph_YI wd (24 * d) (ph_l ln d) q n i rw sk → wY_work_9 post (nI d) (nI n) (i + 1) (nI ((ph_c q i).1 + (ph_c q i).2)) (nI i + (-1)) ln wd q rw sk pl := by
  have hn := R.1
  intro i
  induction i with
  | zero =>
    intro _ rw sk X
    rw [wY_work_9]
    exact br_t (by decide) (H rw sk X)
  | succ i ih =>
    intro hi rw sk X
    have ok := R.2.1 i (by omega)
    have S := ph_SI_all (wd := wd) (o := 24 * d) (L := ph_l ln d) C R.2.1 (n - (i + 1)) (i + 1) (by omega)
    have W := ph_VI_all (wd := wd) (o := 24 * d) (L := ph_l ln d) C R.2.1 (n - (i + 1)) (i + 1) (by omega)
    have T := ph_ok_le ok
    have hh := ok.1
    have K := ph_kinds ok
    have B := ph_c_le q i
    have gi := fun b => ph_V_i (wd := wd) (o := 24 * d) (L := ph_l ln d) (q := q) (n := n) (i := i) (by omega) b
    rw [wY_work_9, pk_m1]
    dsimp only
    rw [nI_clamp (n := i) (by omega), hh]
    refine br_f (nI_pos (by omega)) ⟨vp_in_nI (by omega) (by decide), nm_e (ph_py (by omega) ?_)⟩
    have em : (ph_c q i).1 + (ph_c q i).2 = (ph_c q (i + 1)).1 + (ph_c q (i + 1)).2 - ph_par (ph_t q i) + 1 := by omega
    have pm : ph_par (ph_t q i) ≤ (ph_c q (i + 1)).1 + (ph_c q (i + 1)).2 := by omega
    have m12 : (ph_c q (i + 1)).1 + (ph_c q (i + 1)).2 ≤ 12 := by have := ph_m_le C R.2.1 (n - (i + 1)) (i + 1) (by omega); omega
    obtain ⟨h1, h2, h3, h4⟩ := S
    have X' := X
    obtain ⟨x1, x2, x3⟩ := X
    -- the two top parts
    obtain ⟨s, hs1, hs0, s12, sS⟩ : ∃ s, (1 ≤ (ph_c q (i + 1)).1 + (ph_c q (i + 1)).2 → sk ((ph_c q (i + 1)).1 + (ph_c q (i + 1)).2 - 1) = nI s) ∧ ((ph_c q (i + 1)).1 + (ph_c q (i + 1)).2 = 0 → s = 0) ∧ s < 12 ∧ (1 ≤ (ph_c q (i + 1)).1 + (ph_c q (i + 1)).2 → s = ph_S wd (24 * d) (ph_l ln d) q n (i + 1) 0) := by
      by_cases z : 1 ≤ (ph_c q (i + 1)).1 + (ph_c q (i + 1)).2
      · have e := x1 0 (by omega)
        rw [Nat.sub_zero] at e
        refine ⟨ph_S wd (24 * d) (ph_l ln d) q n (i + 1) 0, fun _ => e, fun y => by omega, ?_, fun _ => rfl⟩
        by_cases y : 0 < (ph_c q (i + 1)).1
        · have := (h3 0 y).1; omega
        · have := (h4 0 (by omega) (by omega)).1; omega
      · exact ⟨0, fun y => absurd y z, fun _ => rfl, by omega, fun y => absurd y z⟩
    obtain ⟨t, ht2, ht1, t12, tS⟩ : ∃ t, (2 ≤ (ph_c q (i + 1)).1 + (ph_c q (i + 1)).2 → sk ((ph_c q (i + 1)).1 + (ph_c q (i + 1)).2 - 2) = nI t) ∧ ((ph_c q (i + 1)).1 + (ph_c q (i + 1)).2 < 2 → t = 0) ∧ t < 12 ∧ (2 ≤ (ph_c q (i + 1)).1 + (ph_c q (i + 1)).2 → t = ph_S wd (24 * d) (ph_l ln d) q n (i + 1) 1) := by
      by_cases z : 2 ≤ (ph_c q (i + 1)).1 + (ph_c q (i + 1)).2
      · have e := x1 1 (by omega)
        rw [Nat.sub_sub] at e
        refine ⟨ph_S wd (24 * d) (ph_l ln d) q n (i + 1) 1, fun _ => e, fun y => by omega, ?_, fun _ => rfl⟩
        by_cases y : 1 < (ph_c q (i + 1)).1
        · have := (h3 1 y).1; omega
        · have := (h4 1 (by omega) (by omega)).1; omega
      · exact ⟨0, fun y => absurd y z, fun _ => rfl, by omega, fun y => absurd y z⟩
    refine ph_w46 m12 hs1 hs0 ht2 ht1 ?_
    by_cases v : ph_t q i ≤ 18
    · have Y := ph_YI_sp (by omega) ok X' v
      refine ph_w65s (g := ph_V wd (24 * d) (ph_l ln d) q n i i) (by omega) (by omega) (fun b hb P hP => ?_) (ph_w257 m12 pm (by omega) (by rw [← em]; exact ih (by omega) _ _ Y))
      rw [gi b] at hP
      by_cases w : ph_t q i ≤ 11
      · rw [ph_row_w w, hh] at hP
        exact ph_spw R hd hb w hP
      · have c2 : 2 ≤ (ph_c q (i + 1)).1 := by omega
        obtain ⟨s1, s2⟩ := h3 0 (by omega)
        obtain ⟨t1, t2⟩ := h3 1 (by omega)
        have sv := x2 _ (h2 0).1 s1 s2
        have tv := x2 _ (h2 1).1 t1 t2
        have tl := (W _ (h2 1).1 t1).1 t2
        have s0 := (h2 0).1
        have t0 := (h2 1).1
        rw [← sS (by omega)] at sv s0 hP
        rw [← tS (by omega)] at tv tl t0 hP
        have tv' : ∀ c, c < 24 → ph_wr rw i (ph_V wd (24 * d) (ph_l ln d) q n i i) b (24 * t + c) = ph_V wd (24 * d) (ph_l ln d) q n (i + 1) t c := fun c hc => by
          rw [ph_wr_o (by omega) (by omega) hc]; exact tv c hc
        have sv' : ph_wr rw i (ph_V wd (24 * d) (ph_l ln d) q n i i) b (24 * s + b) = ph_V wd (24 * d) (ph_l ln d) q n (i + 1) s b := by
          rw [ph_wr_o (by omega) (by omega) hb]; exact sv b hb
        by_cases a : ph_t q i = 12
        · rw [ph_row_o a, ← sv', ← tv' b hb] at hP
          rw [a]
          exact ph_sp12 hb s12 t12 hP
        · by_cases e : ph_t q i = 18
          · rw [ph_row_i e, ← sv'] at hP
            rw [e]
            exact ph_sp18 hb s12 t12 tv' tl hP
          · rw [ph_row_t (by omega) (by omega), ← sv'] at hP
            exact ph_spt hb s12 t12 (by omega) (by omega) tv' hP
    · have v2 : 20 ≤ ph_t q i := by have := ok.2; omega
      have Y := ph_YI_co (by omega) ok X' v2
      have z01 : ph_V wd (24 * d) (ph_l ln d) q n i i 0 = 0 ∨ ph_V wd (24 * d) (ph_l ln d) q n i i 0 = 1 := by rw [gi 0]; exact ph_row_01 v2
      refine ph_w65c (sv := ph_V wd (24 * d) (ph_l ln d) q n (i + 1) s) (z := ph_V wd (24 * d) (ph_l ln d) q n i i 0) (by omega) s12 t12 (fun e b hb => ?_) v2 T z01 (fun e => ?_) (fun e => ?_) (fun e => ?_) (fun e => ?_) (ph_w257 m12 pm (by omega) (by rw [← em]; exact ih (by omega) _ _ Y))
      · obtain ⟨s1, s2⟩ := h3 0 (by omega)
        have sv := x2 _ (h2 0).1 s1 s2
        rw [← sS (by omega)] at sv
        exact sv b hb
      · obtain ⟨s1, s2⟩ := h4 0 (by omega) (by omega)
        obtain ⟨t1, t2⟩ := h4 1 (by omega) (by omega)
        have sv := x3 _ (h2 0).1 s1 s2
        have tv := x3 _ (h2 1).1 t1 t2
        rw [gi 0, ph_row_20 e, ← sv, ← tv, ← sS (by omega), ← tS (by omega)]
      · obtain ⟨s1, s2⟩ := h4 0 (by omega) (by omega)
        obtain ⟨t1, t2⟩ := h4 1 (by omega) (by omega)
        have sv := x3 _ (h2 0).1 s1 s2
        have tv := x3 _ (h2 1).1 t1 t2
        rw [gi 0, ph_row_21 e, ← sv, ← tv, ← sS (by omega), ← tS (by omega)]
      · obtain ⟨s1, s2⟩ := h4 0 (by omega) (by omega)
        have sv := x3 _ (h2 0).1 s1 s2
        rw [gi 0, ph_row_22 e, ← sv, ← sS (by omega)]
      · rw [gi 0, ph_row_23 e, ← sS (by omega)]
theorem ph_wY {post : SY → Prop} {wd ln q rw sk pl : Nat → Int32} {n d : Nat} (R : ph_R n wd ln q) (hd : d < 6) (C : (ph_c q n).1 + (ph_c q n).2 = 0)
    (H : ∀ rw sk, ph_YI wd (24 * d) (ph_l ln d) q n 0 rw sk → post (nI n, ln, wd, q, rw, sk, pl)) :
    wpY_work post (nI n, ln, wd, q, rw, sk, pl) (nI d) := by
  unfold wpY_work
  dsimp only
  refine nm_r (e' := nI n + (-1)) (by rw [Int32.sub_eq_add_neg]) ⟨n + 1, ?_⟩
  have h := ph_w9 R hd C H n (Nat.le_refl n) rw sk ⟨fun j hj => by omega, fun j hj hj2 => by omega, fun j hj hj2 => by omega⟩
  rw [C] at h
  exact h
end
section
/-! ===== holds, matching ===== -/
/-- what holds answers for document d -/
def ph_hr (wd ln q : Nat → Int32) (n d : Nat) : Int32 := if (ph_c q n).1 + (ph_c q n).2 = 0 then ph_V wd (24 * d) (ph_l ln d) q n 0 0 0 else 0
section
variable {wd ln q np tr eb rw sk pl : Nat → Int32} {n d : Nat}
theorem ph_n0 (C : (ph_c q n).1 + (ph_c q n).2 = 0) : 0 < n := by
  cases n with
  | zero => exact absurd (show (0 + 1 = 0) from C) (by decide)
  | succ n => omega
theorem ph_q0 (R : ph_R n wd ln q) (C : (ph_c q n).1 + (ph_c q n).2 = 0) : 20 ≤ ph_t q 0 := by
  have ok := R.2.1 0 (ph_n0 C)
  have e : (ph_c q 0).1 = 0 := rfl
  have := ok.2
  omega
theorem ph_h01 (R : ph_R n wd ln q) (C : (ph_c q n).1 + (ph_c q n).2 = 0) : ph_V wd (24 * d) (ph_l ln d) q n 0 0 0 = 0 ∨ ph_V wd (24 * d) (ph_l ln d) q n 0 0 0 = 1 :=
  (ph_VI_all (wd := wd) (o := 24 * d) (L := ph_l ln d) C R.2.1 n 0 (by omega) 0 (Nat.le_refl 0) (ph_n0 C)).2 (ph_q0 R C)
theorem ph_hX {post : Int32 → SX → Prop} (R : ph_R n wd ln q) (hd : d < 6) (H : ∀ np tr eb, post (ph_hr wd ln q n d) (nI n, nI (ph_c q n).1, nI (ph_c q n).2, wd, ln, q, np, tr, eb)) :
    wpX_holds post (nI n, nI (ph_c q n).1, nI (ph_c q n).2, wd, ln, q, np, tr, eb) (nI d) := by
  have B := ph_c_le q n
  have hn := R.1
  unfold wpX_holds
  dsimp only
  refine ph_xd1 hd (br_f (by decide) (ph_xc (by omega) ?_))
  by_cases C : (ph_c q n).1 + (ph_c q n).2 = 0
  · refine br_f (by rw [show ph_cp (ph_c q n) = 1 from if_pos C]; decide) (ph_eX R hd C (fun np tr eb X => ?_))
    have e : tr 0 = ph_V wd (24 * d) (ph_l ln d) q n 0 0 0 := X.2.2 0 (Nat.le_refl 0) (ph_n0 C) (ph_q0 R C)
    have h := H np tr eb
    rw [show ph_hr wd ln q n d = ph_V wd (24 * d) (ph_l ln d) q n 0 0 0 from if_pos C, ← e] at h
    have z := ph_h01 (d := d) R C
    rw [← e] at z
    dsimp only
    refine ⟨?_, h⟩
    rcases z with z | z <;> rw [z] <;> decide
  · have h := H np tr eb
    rw [show ph_hr wd ln q n d = 0 from if_neg C] at h
    exact br_t (if_neg C) h
theorem ph_hY {post : Int32 → SY → Prop} (R : ph_R n wd ln q) (hd : d < 6) (H : ∀ rw sk pl, post (ph_hr wd ln q n d) (nI n, ln, wd, q, rw, sk, pl)) :
    wpY_holds post (nI n, ln, wd, q, rw, sk, pl) (nI d) := by
  unfold wpY_holds
  dsimp only
  refine ph_yd1 hd (br_f (by decide) (ph_yc R.1 R.2.1 (fun pl' => ?_)))
  dsimp only
  by_cases C : (ph_c q n).1 + (ph_c q n).2 = 0
  · refine br_f (by rw [show ph_cp (ph_c q n) = 1 from if_pos C]; decide) (ph_wY R hd C (fun rw sk Y => ?_))
    have e : rw 0 = ph_V wd (24 * d) (ph_l ln d) q n 0 0 0 := Y.2.2 0 (Nat.le_refl 0) (ph_n0 C) (ph_q0 R C)
    have h := H rw sk pl'
    rw [show ph_hr wd ln q n d = ph_V wd (24 * d) (ph_l ln d) q n 0 0 0 from if_pos C, ← e] at h
    have z := ph_h01 (d := d) R C
    rw [← e] at z
    dsimp only
    refine br_c (fun y => ?_) (fun y => ?_)
    · rw [y] at h; exact h
    · rw [z.resolve_right y] at h; exact h
  · have h := H rw sk pl'
    rw [show ph_hr wd ln q n d = 0 from if_neg C] at h
    exact br_t (if_neg C) h
/-- what matching has after d documents -/
def ph_mt (wd ln q : Nat → Int32) (n : Nat) : Nat → Int32
  | 0 => 0
  | d + 1 => if ph_hr wd ln q n d = 0 then ph_mt wd ln q n d else ph_mt wd ln q n d ||| ((1 : Int32) <<< (nI d &&& 31))
theorem ph_mX {post : Int32 → SX → Prop} (R : ph_R n wd ln q) (H : ∀ np tr eb, post (ph_mt wd ln q n 6) (nI n, nI (ph_c q n).1, nI (ph_c q n).2, wd, ln, q, np, tr, eb)) :
    ∀ r d, d + r = 6 → ∀ np tr eb, wX_matching_4 post (r + 1) (ph_mt wd ln q n d) (nI d) (nI n) (nI (ph_c q n).1) (nI (ph_c q n).2) wd ln q np tr eb := by
  intro r
  induction r with
  | zero =>
    intro d hd np tr eb
    have e : d = 6 := by omega
    subst e
    rw [wX_matching_4]
    exact br_t (nI_le (a := 6) (b := 6) (by omega) (by decide)) (H np tr eb)
  | succ r ih =>
    intro d hd np tr eb
    rw [wX_matching_4]
    dsimp only
    refine br_f (nI_ge (b := 6) (by omega) (by decide)) (ph_hX R (by omega) (fun np tr eb => ?_))
    have j := ih (d + 1) (by omega) np tr eb
    dsimp only
    refine br_c (fun z => ?_) (fun z => ?_)
    · rw [show ph_mt wd ln q n (d + 1) = ph_mt wd ln q n d from if_pos z] at j
      exact nm_r (nI_1 d) j
    · rw [show ph_mt wd ln q n (d + 1) = ph_mt wd ln q n d ||| ((1 : Int32) <<< (nI d &&& 31)) from if_neg z] at j
      exact nm_e (nm_r (nI_1 d) j)
theorem ph_mY {post : Int32 → SY → Prop} (R : ph_R n wd ln q) (H : ∀ rw sk pl, post (ph_mt wd ln q n 6) (nI n, ln, wd, q, rw, sk, pl)) :
    ∀ r d, d + r = 6 → ∀ rw sk pl, wY_matching_4 post (r + 1) (ph_mt wd ln q n d) (nI d) (nI n) ln wd q rw sk pl := by
  intro r
  induction r with
  | zero =>
    intro d hd rw sk pl
    have e : d = 6 := by omega
    subst e
    rw [wY_matching_4]
    exact br_t (nI_le (a := 6) (b := 6) (by omega) (by decide)) (H rw sk pl)
  | succ r ih =>
    intro d hd rw sk pl
    rw [wY_matching_4]
    dsimp only
    refine br_f (nI_ge (b := 6) (by omega) (by decide)) (ph_hY R (by omega) (fun rw sk pl => ?_))
    have j := ih (d + 1) (by omega) rw sk pl
    dsimp only
    refine br_c (fun z => ?_) (fun z => ?_)
    · rw [show ph_mt wd ln q n (d + 1) = ph_mt wd ln q n d from if_pos z] at j
      exact nm_r (nI_1 d) j
    · rw [show ph_mt wd ln q n (d + 1) = ph_mt wd ln q n d ||| ((1 : Int32) <<< (nI d &&& 31)) from if_neg z] at j
      exact nm_e (nm_r (nI_1 d) j)
end
theorem i_vc_holds {k : Nat} {u : SX} {v : SY} (I : i_Rel k u v) (hk : k + 4 ≤ 2048) (v1 : Int32) : wpX_holds (fun r u' => wpY_holds (fun r' v' => r' = r ∧ i_Rel (k + 4) u' v') v v1) u v1 := by
  obtain ⟨n, wd, ln, q, np, tr, eb, rw, sk, pl, rfl, rfl, R⟩ := I
  have A : ∀ {v1 : Int32}, (v1 < 0 ∨ nI 6 ≤ v1) → wpX_holds (fun r u' => wpY_holds (fun r' v' => r' = r ∧ i_Rel (k + 4) u' v') (nI n, ln, wd, q, rw, sk, pl) v1) (nI n, nI (ph_c q n).1, nI (ph_c q n).2, wd, ln, q, np, tr, eb) v1 := fun {v1} h => by
    unfold wpX_holds
    dsimp only
    refine ph_xd0 h (br_t rfl ?_)
    unfold wpY_holds
    dsimp only
    exact ph_yd0 h (br_t rfl ⟨rfl, ph_mk R⟩)
  rcases pk_ix v1 (n := 6) (by omega) with h | h | ⟨d, hd, rfl⟩
  · exact A (Or.inl h)
  · exact A (Or.inr h)
  · exact ph_hX R hd (fun np tr eb => ph_hY R hd (fun rw sk pl => ⟨rfl, ph_mk R⟩))
theorem i_vc_matching {k : Nat} {u : SX} {v : SY} (I : i_Rel k u v) (hk : k + 4 ≤ 2048) : wpX_matching (fun r u' => wpY_matching (fun r' v' => r' = r ∧ i_Rel (k + 4) u' v') v) u := by
  obtain ⟨n, wd, ln, q, np, tr, eb, rw, sk, pl, rfl, rfl, R⟩ := I
  unfold wpX_matching
  dsimp only
  refine ⟨7, ph_mX R (fun np tr eb => ?_) 6 0 (by omega) np tr eb⟩
  unfold wpY_matching
  dsimp only
  exact ⟨7, ph_mY R (fun rw sk pl => ⟨rfl, ph_mk R⟩) 6 0 (by omega) rw sk pl⟩
end
section
/-! ===== the k-th HAS, spans, begins, ends ===== -/
def ph_fs (q : Nat → Int32) (k : Int32) : Nat → Nat → Int32 → Option Nat
  | 0, _, _ => none
  | r + 1, i, x => if q i = 23 then (if x = k then some i else ph_fs q k r (i + 1) (x + 1)) else ph_fs q k r (i + 1) x
section
variable {wd ln q np tr eb rw sk pl : Nat → Int32} {n d : Nat} {k : Int32}
theorem ph_fs_q : ∀ r i x j, ph_fs q k r i x = some j → i ≤ j ∧ j < i + r ∧ q j = 23 := by
  intro r
  induction r with
  | zero => intro i x j h; exact nomatch h
  | succ r ih =>
    intro i x j h
    have h' : (if q i = 23 then (if x = k then some i else ph_fs q k r (i + 1) (x + 1)) else ph_fs q k r (i + 1) x) = some j := h
    by_cases a : q i = 23
    · rw [if_pos a] at h'
      by_cases b : x = k
      · rw [if_pos b] at h'
        cases h'
        exact ⟨Nat.le_refl _, by omega, a⟩
      · rw [if_neg b] at h'
        have := ih _ _ _ h'
        exact ⟨by omega, by omega, this.2.2⟩
    · rw [if_neg a] at h'
      have := ih _ _ _ h'
      exact ⟨by omega, by omega, this.2.2⟩
theorem ph_x21 {post : Int32 → SX → Prop} {dd sd cd : Int32} (hn : n ≤ 12) : ∀ r i x, i + r = n →
    (ph_fs q k r i x = none → post (-1) (nI n, sd, cd, wd, ln, q, np, tr, eb)) →
    (∀ j, ph_fs q k r i x = some j → wpX_evaluate (fun u => post (nI (j + 1)) u) (nI n, sd, cd, wd, ln, q, np, tr, eb) dd) →
    wX_evaluatedExpression_21 post k dd (nI n) sd cd wd ln q np tr eb (r + 1) x (nI i) := by
  intro r
  induction r with
  | zero =>
    intro i x hi h0 h1
    rw [wX_evaluatedExpression_21]
    exact pk_le n i (fun _ => h0 rfl) (fun z => absurd z (by omega))
  | succ r ih =>
    intro i x hi h0 h1
    rw [wX_evaluatedExpression_21]
    dsimp only
    rw [nI_clamp (n := i) (by omega)]
    refine pk_le n i (fun z => absurd z (by omega)) (fun _ => ⟨vp_in_nI (by omega) (by decide), br_c (fun a => br_c (fun b => ?_) (fun b => ?_)) (fun a => ?_)⟩)
    · have e : ph_fs q k (r + 1) i x = some i := (if_pos a).trans (if_pos b)
      rw [nI_1]
      exact h1 i e
    · have e : ph_fs q k (r + 1) i x = ph_fs q k r (i + 1) (x + 1) := (if_pos a).trans (if_neg b)
      rw [e] at h0 h1
      exact nm_e (nm_r (nI_1 i) (ih (i + 1) (x + 1) (by omega) h0 h1))
    · have e : ph_fs q k (r + 1) i x = ph_fs q k r (i + 1) x := if_neg a
      rw [e] at h0 h1
      exact nm_r (nI_1 i) (ih (i + 1) x (by omega) h0 h1)
theorem ph_y27 {post : Int32 → SY → Prop} (hn : n ≤ 12) : ∀ r i x, i + r = n →
    (ph_fs q k r i x = none → post (-1) (nI n, ln, wd, q, rw, sk, pl)) →
    (∀ j, ph_fs q k r i x = some j → post (nI (j + 1)) (nI n, ln, wd, q, rw, sk, pl)) →
    wY_find_27 post k (nI n) ln wd q rw sk pl (r + 1) x (nI i) := by
  intro r
  induction r with
  | zero =>
    intro i x hi h0 h1
    rw [wY_find_27]
    exact pk_le n i (fun _ => h0 rfl) (fun z => absurd z (by omega))
  | succ r ih =>
    intro i x hi h0 h1
    rw [wY_find_27]
    dsimp only
    rw [nI_clamp (n := i) (by omega)]
    refine pk_le n i (fun z => absurd z (by omega)) (fun _ => ⟨vp_in_nI (by omega) (by decide), br_c (fun a => br_c (fun b => ?_) (fun b => ?_)) (fun a => ?_)⟩)
    · have e : ph_fs q k (r + 1) i x = some i := (if_pos a).trans (if_pos b)
      rw [nI_1]
      exact h1 i e
    · have e : ph_fs q k (r + 1) i x = ph_fs q k r (i + 1) (x + 1) := (if_pos a).trans (if_neg b)
      rw [e] at h0 h1
      exact nm_e (nm_r (nI_1 i) (ih (i + 1) (x + 1) (by omega) h0 h1))
    · have e : ph_fs q k (r + 1) i x = ph_fs q k r (i + 1) x := if_neg a
      rw [e] at h0 h1
      exact nm_r (nI_1 i) (ih (i + 1) x (by omega) h0 h1)
/-- what is found: the token behind the k-th HAS of a complete query -/
def ph_fd (q : Nat → Int32) (n : Nat) (k : Int32) : Option Nat := if (ph_c q n).1 + (ph_c q n).2 = 0 then ph_fs q k n 0 0 else none
theorem ph_fd_s (R : ph_R n wd ln q) {j : Nat} (h : ph_fd q n k = some j) : (ph_c q n).1 + (ph_c q n).2 = 0 ∧ j + 1 < n ∧ ph_t q (j + 1) ≤ 18 := by
  unfold ph_fd at h
  by_cases C : (ph_c q n).1 + (ph_c q n).2 = 0
  · rw [if_pos C] at h
    obtain ⟨_, hj, e⟩ := ph_fs_q _ _ _ _ h
    have t23 : ph_t q j = 23 := ph_t_of (t := 23) e (by decide)
    have K := ph_kinds (R.2.1 j (by omega))
    have c1 : (ph_c q (j + 1)).1 = 1 := by omega
    have jn : j + 1 < n := by
      by_cases z : j + 1 = n
      · rw [z] at c1; omega
      · omega
    have := (R.2.1 (j + 1) jn).2
    exact ⟨C, jn, by omega⟩
  · rw [if_neg C] at h; exact nomatch h
theorem ph_eeX {post : Int32 → SX → Prop} (R : ph_R n wd ln q) (hd : d < 6)
    (h0 : ph_fd q n k = none → post (-1) (nI n, nI (ph_c q n).1, nI (ph_c q n).2, wd, ln, q, np, tr, eb))
    (h1 : ∀ j, ph_fd q n k = some j → ∀ np tr eb, (∀ b, b < 24 → eb (24 * (j + 1) + b) = ph_V wd (24 * d) (ph_l ln d) q n 0 (j + 1) b) → post (nI (j + 1)) (nI n, nI (ph_c q n).1, nI (ph_c q n).2, wd, ln, q, np, tr, eb)) :
    wpX_evaluatedExpression post (nI n, nI (ph_c q n).1, nI (ph_c q n).2, wd, ln, q, np, tr, eb) k (nI d) := by
  have B := ph_c_le q n
  have hn := R.1
  unfold wpX_evaluatedExpression
  dsimp only
  refine ph_xd1 hd (br_f (by decide) (ph_xc (by omega) ?_))
  by_cases C : (ph_c q n).1 + (ph_c q n).2 = 0
  · have e : ph_fd q n k = ph_fs q k n 0 0 := if_pos C
    refine br_f (by rw [show ph_cp (ph_c q n) = 1 from if_pos C]; decide) ⟨n + 1, ph_x21 hn n 0 0 (by omega) (fun z => h0 (e.trans z)) (fun j hj => ?_)⟩
    obtain ⟨_, j1, j2⟩ := ph_fd_s R (e.trans hj)
    exact ph_eX R hd C (fun np tr eb X => h1 j (e.trans hj) np tr eb (X.2.1 (j + 1) (Nat.zero_le _) j1 j2))
  · exact br_t (if_neg C) (h0 (if_neg C))
theorem ph_fdY {post : Int32 → SY → Prop} (R : ph_R n wd ln q) (hd : d < 6)
    (h0 : ph_fd q n k = none → ∀ rw sk pl, post (-1) (nI n, ln, wd, q, rw, sk, pl))
    (h1 : ∀ j, ph_fd q n k = some j → ∀ rw sk pl, (∀ b, b < 24 → rw (24 * (j + 1) + b) = ph_V wd (24 * d) (ph_l ln d) q n 0 (j + 1) b) → post (nI (j + 1)) (nI n, ln, wd, q, rw, sk, pl)) :
    wpY_find post (nI n, ln, wd, q, rw, sk, pl) k (nI d) := by
  have hn := R.1
  unfold wpY_find
  dsimp only
  refine ph_yd1 hd (br_f (by decide) (ph_yc R.1 R.2.1 (fun pl' => ?_)))
  dsimp only
  by_cases C : (ph_c q n).1 + (ph_c q n).2 = 0
  · have e : ph_fd q n k = ph_fs q k n 0 0 := if_pos C
    refine br_f (by rw [show ph_cp (ph_c q n) = 1 from if_pos C]; decide) (ph_wY R hd C (fun rw sk Y => ?_))
    dsimp only
    refine ⟨n + 1, ph_y27 hn n 0 0 (by omega) (fun z => h0 (e.trans z) rw sk pl') (fun j hj => ?_)⟩
    obtain ⟨_, j1, j2⟩ := ph_fd_s R (e.trans hj)
    exact h1 j (e.trans hj) rw sk pl' (Y.2.1 (j + 1) (Nat.zero_le _) j1 j2)
  · exact br_t (if_neg C) (h0 (if_neg C) rw sk pl')
theorem ph_eeX0 {post : Int32 → SX → Prop} {st : SX} {dd : Int32} (h : dd < 0 ∨ nI 6 ≤ dd) (h0 : post (-1) st) : wpX_evaluatedExpression post st k dd := by
  obtain ⟨a1, a2, a3, a4, a5, a6, a7, a8, a9⟩ := st
  unfold wpX_evaluatedExpression
  dsimp only
  exact ph_xd0 h (br_t rfl h0)
theorem ph_fdY0 {post : Int32 → SY → Prop} {st : SY} {dd : Int32} (h : dd < 0 ∨ nI 6 ≤ dd) (h0 : post (-1) st) : wpY_find post st k dd := by
  obtain ⟨a1, a2, a3, a4, a5, a6, a7⟩ := st
  unfold wpY_find
  dsimp only
  exact ph_yd0 h (br_t rfl h0)
end
/-! spans -/
def ph_bc (x : Int32) : Nat → Int32
  | 0 => 0
  | m + 1 => ph_bc x m + ((x >>> (nI m &&& 31)) &&& 1)
def ph_sc (v : Nat → Int32) : Nat → Int32
  | 0 => 0
  | b + 1 => ph_sc v b + ph_bc (v b) 24
section
variable {f sd cd : Int32} {wd ln q np tr eb rw sk pl v : Nat → Int32} {s : Nat}
theorem ph_bcX {p : Int32 → Prop} {x : Int32} (H : p (ph_bc x 24)) : wpX_bitCount p x := by
  have L : ∀ r m, m + r = 24 → wX_bitCount_4 p x (r + 1) (ph_bc x m) (nI m) := by
    intro r
    induction r with
    | zero =>
      intro m hm
      have e : m = 24 := by omega
      subst e
      rw [wX_bitCount_4]
      exact br_t (nI_le (a := 24) (b := 24) (by omega) (by decide)) H
    | succ r ih =>
      intro m hm
      have j := ih (m + 1) (by omega)
      rw [wX_bitCount_4]
      exact br_f (nI_ge (b := 24) (by omega) (by decide)) (nm_e (nm_r (nI_1 m) j))
  unfold wpX_bitCount
  exact ⟨25, L 24 0 (by omega)⟩
theorem ph_scX {post : Int32 → SX → Prop} (hs : s ≤ 12) (ev : ∀ b, b < 24 → eb (24 * s + b) = v b) (H : post (ph_sc v 24) (f, sd, cd, wd, ln, q, np, tr, eb)) :
    ∀ r b, b + r = 24 → wX_spans_20 post (nI s) f sd cd wd ln q np tr eb (r + 1) (ph_sc v b) (nI b) := by
  intro r
  induction r with
  | zero =>
    intro b hb
    have e : b = 24 := by omega
    subst e
    rw [wX_spans_20]
    exact br_t (nI_le (a := 24) (b := 24) (by omega) (by decide)) H
  | succ r ih =>
    intro b hb
    have j := ih (b + 1) (by omega)
    rw [wX_spans_20]
    dsimp only
    rw [ph_ix s b, nI_clamp (n := 24 * s + b) (by omega), ev b (by omega)]
    exact br_f (nI_ge (b := 24) (by omega) (by decide)) ⟨vp_in_nI (by omega) (by decide), ph_bcX (nm_e (nm_r (nI_1 b) j))⟩
theorem ph_scY {post : Int32 → SY → Prop} (hs : s < 12) (ev : ∀ b, b < 24 → rw (24 * s + b) = v b) (H : post (ph_sc v 24) (f, ln, wd, q, rw, sk, pl)) :
    ∀ r b e, e < 24 → 24 * b + e + r = 576 → wY_spans_21 post (nI s) f ln wd q rw sk pl (r + 1) (ph_sc v b + ph_bc (v b) e) (nI (24 * b + e)) := by
  intro r
  induction r with
  | zero =>
    intro b e he hb
    have e1 : b = 24 := by omega
    have e2 : e = 0 := by omega
    subst e1 e2
    rw [wY_spans_21, show ph_bc (v 24) 0 = 0 from rfl, Int32.add_zero]
    exact br_t (nI_le (a := 576) (b := 576) (by omega) (by decide)) H
  | succ r ih =>
    intro b e he hc
    have hb : b < 24 := by omega
    have i : wY_spans_21 post (nI s) f ln wd q rw sk pl (r + 1) (ph_sc v b + ph_bc (v b) (e + 1)) (nI (24 * b + e + 1)) := by
      by_cases z : e + 1 < 24
      · exact ih b (e + 1) z (by omega)
      · have e1 : e = 23 := by omega
        have j := ih (b + 1) 0 (by omega) (by omega)
        rw [show ph_bc (v (b + 1)) 0 = 0 from rfl, Int32.add_zero] at j
        subst e1
        exact j
    rw [show ph_bc (v b) (e + 1) = ph_bc (v b) e + ((v b >>> (nI e &&& 31)) &&& 1) from rfl, ← Int32.add_assoc] at i
    rw [wY_spans_21]
    dsimp only
    rw [show (24 : Int32) = nI 24 from rfl, pk_rem (a := 24 * b + e) (by omega) (by omega) (by omega), pk_div (a := 24 * b + e) (by omega) (by omega) (by omega), show (24 * b + e) / 24 = b by omega, show (24 * b + e) % 24 = e by omega, pk_mul, nI_add, nI_clamp (n := 24 * s + b) (by omega), ev b hb]
    exact br_f (nI_ge (b := 576) (by omega) (by decide)) (br_f (nI_pos (by omega)) ⟨by decide, vp_in_nI (by omega) (by decide), by decide, nm_e (nm_r (nI_1 _) i)⟩)
end
theorem ph_spX {n k : Nat} {k1 : Int32} {wd ln q np tr eb rw sk pl : Nat → Int32} {d : Nat} (R : ph_R n wd ln q) (hd : d < 6) :
    wpX_spans (fun r u' => wpY_spans (fun r' v' => r' = r ∧ i_Rel (k + 4) u' v') (nI n, ln, wd, q, rw, sk, pl) k1 (nI d)) (nI n, nI (ph_c q n).1, nI (ph_c q n).2, wd, ln, q, np, tr, eb) k1 (nI d) := by
  have hn := R.1
  unfold wpX_spans
  dsimp only
  refine ph_eeX R hd (fun h => ?_) (fun j h np tr eb ev => ?_)
  · dsimp only
    refine br_t rfl ?_
    unfold wpY_spans
    dsimp only
    refine ph_fdY R hd (fun _ rw sk pl => ?_) (fun j' h' => absurd (h.symm.trans h') (by simp))
    dsimp only
    refine br_f (by decide) ⟨1, ?_⟩
    rw [wY_spans_21]
    exact br_f (by decide) (br_t (by decide) ⟨rfl, ph_mk R⟩)
  · obtain ⟨_, jn, _⟩ := ph_fd_s R h
    dsimp only
    refine br_f ?_ ⟨25, ph_scX (by omega) ev ?_ 24 0 (by omega)⟩
    · intro z
      have y : ¬ nI (j + 1) < 0 := nI_pos (by omega)
      rw [z] at y
      exact y (by decide)
    · unfold wpY_spans
      dsimp only
      refine ph_fdY R hd (fun h' => absurd (h.symm.trans h') (by simp)) (fun j' h' rw sk pl ev' => ?_)
      have e : j' = j := by
        have := h.symm.trans h'
        cases this
        rfl
      subst e
      dsimp only
      have L := ph_scY (f := nI n) (wd := wd) (ln := ln) (q := q) (sk := sk) (pl := pl) (post := fun r' v' => r' = ph_sc (ph_V wd (24 * d) (ph_l ln d) q n 0 (j' + 1)) 24 ∧ i_Rel (k + 4) (nI n, nI (ph_c q n).1, nI (ph_c q n).2, wd, ln, q, np, tr, eb) v') (s := j' + 1) (by omega) ev' ⟨rfl, ph_mk R⟩ 576 0 0 (by omega) (by omega)
      rw [show ph_sc (ph_V wd (24 * d) (ph_l ln d) q n 0 (j' + 1)) 0 + ph_bc (ph_V wd (24 * d) (ph_l ln d) q n 0 (j' + 1) 0) 0 = 0 from rfl] at L
      exact br_t (nI_pos' (by omega)) ⟨577, L⟩
theorem i_vc_spans {k : Nat} {u : SX} {v : SY} (I : i_Rel k u v) (hk : k + 4 ≤ 2048) (v1 : Int32) (v2 : Int32) : wpX_spans (fun r u' => wpY_spans (fun r' v' => r' = r ∧ i_Rel (k + 4) u' v') v v1 v2) u v1 v2 := by
  obtain ⟨n, wd, ln, q, np, tr, eb, rw, sk, pl, rfl, rfl, R⟩ := I
  have A : ∀ {v2 : Int32}, (v2 < 0 ∨ nI 6 ≤ v2) → wpX_spans (fun r u' => wpY_spans (fun r' v' => r' = r ∧ i_Rel (k + 4) u' v') (nI n, ln, wd, q, rw, sk, pl) v1 v2) (nI n, nI (ph_c q n).1, nI (ph_c q n).2, wd, ln, q, np, tr, eb) v1 v2 := fun {v2} h => by
    unfold wpX_spans
    dsimp only
    refine ph_eeX0 h ?_
    dsimp only
    refine br_t rfl ?_
    unfold wpY_spans
    dsimp only
    refine ph_fdY0 h ?_
    dsimp only
    refine br_f (by decide) ⟨1, ?_⟩
    rw [wY_spans_21]
    exact br_f (by decide) (br_t (by decide) ⟨rfl, ph_mk R⟩)
  rcases pk_ix v2 (n := 6) (by omega) with h | h | ⟨d, hd, rfl⟩
  · exact A (Or.inl h)
  · exact A (Or.inr h)
  · exact ph_spX R hd
end
section
/-! ===== begins, ends ===== -/
def ph_fb (v : Nat → Int32) : Nat → Nat → Int32
  | 0, _ => -1
  | r + 1, c => if v c = 0 then ph_fb v r (c + 1) else nI c
def ph_lb (x : Int32) : Nat → Nat → Int32
  | 0, _ => -1
  | r + 1, e => if (x >>> (nI e &&& 31)) &&& 1 = 1 then nI e else ph_lb x r (e + 1)
section
variable {f sd cd : Int32} {wd ln q np tr eb rw sk pl v : Nat → Int32} {s : Nat}
theorem ph_bX {post : Int32 → SX → Prop} (hs : s ≤ 12) (ev : ∀ b, b < 24 → eb (24 * s + b) = v b) :
    ∀ r c, c + r = 24 → post (ph_fb v r c) (f, sd, cd, wd, ln, q, np, tr, eb) → wX_begins_27 post (nI s) f sd cd wd ln q np tr eb (r + 1) (nI c) := by
  intro r
  induction r with
  | zero =>
    intro c hc H
    have e : c = 24 := by omega
    subst e
    rw [wX_begins_27]
    exact br_t (nI_le (a := 24) (b := 24) (by omega) (by decide)) H
  | succ r ih =>
    intro c hc H
    rw [wX_begins_27]
    dsimp only
    rw [ph_ix s c, nI_clamp (n := 24 * s + c) (by omega), ev c (by omega)]
    refine br_f (nI_ge (b := 24) (by omega) (by decide)) ⟨vp_in_nI (by omega) (by decide), br_c (fun z => ?_) (fun z => ?_)⟩
    · rw [show ph_fb v (r + 1) c = ph_fb v r (c + 1) from if_pos z] at H
      exact nm_r (nI_1 c) (ih (c + 1) (by omega) H)
    · rw [show ph_fb v (r + 1) c = nI c from if_neg z] at H
      exact H
/-- from the place B on, where nothing is passed over any more -/
theorem ph_bY {post : Int32 → SY → Prop} {x3 : Int32} {B : Nat} (hs : s < 12) (ev : ∀ b, b < 24 → rw (24 * s + b) = v b) (h1 : ∀ c, B ≤ c → c < 24 → ¬ nI c < x3) :
    ∀ r c, c + r = 24 → B ≤ c → post (ph_fb v r c) (f, ln, wd, q, rw, sk, pl) → wY_begins_11 post x3 (nI s) f ln wd q rw sk pl (r + 1) (nI c) := by
  intro r
  induction r with
  | zero =>
    intro c hc _ H
    have e : c = 24 := by omega
    subst e
    rw [wY_begins_11]
    exact br_t (nI_le (a := 24) (b := 24) (by omega) (by decide)) H
  | succ r ih =>
    intro c hc hB H
    rw [wY_begins_11]
    dsimp only
    rw [ph_iy s c, nI_clamp (n := 24 * s + c) (by omega), ev c (by omega)]
    refine br_f (nI_ge (b := 24) (by omega) (by decide)) (br_f (nI_pos (by omega)) (br_f (h1 c hB (by omega)) ⟨vp_in_nI (by omega) (by decide), br_c (fun z => ?_) (fun z => ?_)⟩))
    · rw [show ph_fb v (r + 1) c = ph_fb v r (c + 1) from if_pos z] at H
      exact nm_r (nI_1 c) (ih (c + 1) (by omega) (by omega) H)
    · rw [show ph_fb v (r + 1) c = nI c from if_neg z] at H
      exact H
theorem ph_bY0 {post : Int32 → SY → Prop} {x3 : Int32} {B : Nat} (hB : B ≤ 24) (hs : s < 12) (ev : ∀ b, b < 24 → rw (24 * s + b) = v b) (h0 : ∀ c, c < B → nI c < x3) (h1 : ∀ c, B ≤ c → c < 24 → ¬ nI c < x3)
    (H : post (ph_fb v (24 - B) B) (f, ln, wd, q, rw, sk, pl)) :
    ∀ r c, c + r = B → wY_begins_11 post x3 (nI s) f ln wd q rw sk pl (24 - c + 1) (nI c) := by
  intro r
  induction r with
  | zero =>
    intro c hc
    have e : c = B := by omega
    subst e
    exact ph_bY hs ev h1 (24 - c) c (by omega) (Nat.le_refl c) H
  | succ r ih =>
    intro c hc
    have j := ih (c + 1) (by omega)
    rw [show 24 - (c + 1) + 1 = 24 - c by omega] at j
    rw [wY_begins_11]
    exact br_f (nI_ge (b := 24) (by omega) (by decide)) (br_f (nI_pos (by omega)) (br_t (h0 c (by omega)) (nm_r (nI_1 c) j)))
theorem ph_lX {p : Int32 → Prop} {x : Int32} : ∀ r e, e + r = 24 → p (ph_lb x r e) → wX_lowestBit_2 p x (r + 1) (nI e) := by
  intro r
  induction r with
  | zero =>
    intro e he H
    have e' : e = 24 := by omega
    subst e'
    rw [wX_lowestBit_2]
    exact br_t (nI_le (a := 24) (b := 24) (by omega) (by decide)) H
  | succ r ih =>
    intro e he H
    rw [wX_lowestBit_2]
    refine br_f (nI_ge (b := 24) (by omega) (by decide)) (br_c (fun z => ?_) (fun z => ?_))
    · rw [show ph_lb x (r + 1) e = nI e from if_pos z] at H
      exact H
    · rw [show ph_lb x (r + 1) e = ph_lb x r (e + 1) from if_neg z] at H
      exact nm_r (nI_1 e) (ih (e + 1) (by omega) H)
theorem ph_lY {post : Int32 → SY → Prop} {b : Nat} (hs : s < 12) (hb : b < 24) {x : Int32} (ev : rw (24 * s + b) = x) :
    ∀ r e, e + r = 24 → post (ph_lb x r e) (f, ln, wd, q, rw, sk, pl) → wY_ends_11 post (nI b) (nI s) f ln wd q rw sk pl (r + 1) (nI e) := by
  intro r
  induction r with
  | zero =>
    intro e he H
    have e' : e = 24 := by omega
    subst e'
    rw [wY_ends_11]
    exact br_t (nI_le (a := 24) (b := 24) (by omega) (by decide)) H
  | succ r ih =>
    intro e he H
    rw [wY_ends_11]
    dsimp only
    rw [ph_iy s b, nI_clamp (n := 24 * s + b) (by omega), ev]
    refine br_f (nI_ge (b := 24) (by omega) (by decide)) (br_f (nI_pos (by omega)) (br_f (nI_pos (by omega)) (br_f (nI_ge (b := 24) (by omega) (by decide)) ⟨vp_in_nI (by omega) (by decide), br_c (fun z => ?_) (fun z => ?_)⟩)))
    · rw [show ph_lb x (r + 1) e = nI e from if_pos z] at H
      exact H
    · rw [show ph_lb x (r + 1) e = ph_lb x r (e + 1) from if_neg z] at H
      exact nm_r (nI_1 e) (ih (e + 1) (by omega) H)
/-- nothing found: the reference's loops answer NONE at once -/
theorem ph_bYn {post : Int32 → SY → Prop} {x3 : Int32} (H : post (-1) (f, ln, wd, q, rw, sk, pl)) : wY_begins_11 post x3 (-1) f ln wd q rw sk pl 1 0 := by
  rw [wY_begins_11]
  exact br_f (by decide) (br_t (by decide) H)
theorem ph_lYn {post : Int32 → SY → Prop} {x3 : Int32} (H : post (-1) (f, ln, wd, q, rw, sk, pl)) : wY_ends_11 post x3 (-1) f ln wd q rw sk pl 1 0 := by
  rw [wY_ends_11]
  exact br_f (by decide) (br_t (by decide) H)
theorem ph_lYo {post : Int32 → SY → Prop} {x3 : Int32} (hs : s < 12) (hx : x3 < 0 ∨ nI 24 ≤ x3) (H : post (-1) (f, ln, wd, q, rw, sk, pl)) : wY_ends_11 post x3 (nI s) f ln wd q rw sk pl 1 0 := by
  rw [wY_ends_11]
  exact br_f (by decide) (br_f (nI_pos (by omega)) (br_c (fun _ => H) (fun z => br_t (hx.resolve_left z) H)))
end
theorem ph_neN {j : Nat} (h : j < 100) : ¬ nI (j + 1) = -1 := by
  intro z
  have y : ¬ nI (j + 1) < 0 := nI_pos (by omega)
  rw [z] at y
  exact y (by decide)
/-- where begins starts -/
def ph_B (x : Int32) : Nat := min x.toNatClampNeg 24
theorem ph_B_n {x : Int32} (h : x < 0) : ph_B x = 0 := by
  unfold ph_B
  have e : x.toNatClampNeg = 0 := by
    have : x.toInt < 0 := by
      have := Int32.lt_iff_toInt_lt.mp h
      exact this
    show x.toInt.toNat = 0
    omega
  rw [e]; rfl
theorem ph_B_p {j : Nat} (h : j < 2 ^ 31) : ph_B (nI j) = min j 24 := by
  unfold ph_B; rw [nI_clamp h]
theorem ph_B_0 (x : Int32) : ∀ c, c < ph_B x → nI c < x := by
  intro c hc
  by_cases h : x < 0
  · rw [ph_B_n h] at hc; omega
  · obtain ⟨j, hj, rfl⟩ := nI_of h
    rw [ph_B_p hj] at hc
    exact nI_lt (by omega) hj
theorem ph_B_1 (x : Int32) : ∀ c, ph_B x ≤ c → c < 24 → ¬ nI c < x := by
  intro c hc hc2
  by_cases h : x < 0
  · intro z
    exact nI_pos (n := c) (by omega) (Int32.lt_trans z h)
  · obtain ⟨j, hj, rfl⟩ := nI_of h
    rw [ph_B_p hj] at hc
    exact nI_nlt (by omega) (by omega)
theorem ph_begX {n k : Nat} {k1 k3 : Int32} {wd ln q np tr eb rw sk pl : Nat → Int32} {d : Nat} (R : ph_R n wd ln q) (hd : d < 6) :
    wpX_begins (fun r u' => wpY_begins (fun r' v' => r' = r ∧ i_Rel (k + 4) u' v') (nI n, ln, wd, q, rw, sk, pl) k1 (nI d) k3) (nI n, nI (ph_c q n).1, nI (ph_c q n).2, wd, ln, q, np, tr, eb) k1 (nI d) k3 := by
  have hn := R.1
  unfold wpX_begins
  dsimp only
  refine ph_eeX R hd (fun h => ?_) (fun j h np tr eb ev => ?_)
  · dsimp only
    refine br_t rfl ?_
    unfold wpY_begins
    dsimp only
    refine ph_fdY R hd (fun _ rw sk pl => ?_) (fun j' h' => absurd (h.symm.trans h') (by simp))
    dsimp only
    exact ⟨1, ph_bYn ⟨rfl, ph_mk R⟩⟩
  · obtain ⟨_, jn, _⟩ := ph_fd_s R h
    dsimp only
    refine br_f (ph_neN (by omega)) ?_
    have Y : wpY_begins (fun r' v' => r' = ph_fb (ph_V wd (24 * d) (ph_l ln d) q n 0 (j + 1)) (24 - ph_B k3) (ph_B k3) ∧ i_Rel (k + 4) (nI n, nI (ph_c q n).1, nI (ph_c q n).2, wd, ln, q, np, tr, eb) v') (nI n, ln, wd, q, rw, sk, pl) k1 (nI d) k3 := by
      unfold wpY_begins
      dsimp only
      refine ph_fdY R hd (fun h' => absurd (h.symm.trans h') (by simp)) (fun j' h' rw sk pl ev' => ?_)
      have e : j' = j := by
        have := h.symm.trans h'
        cases this
        rfl
      subst e
      dsimp only
      exact ⟨25, ph_bY0 (B := ph_B k3) (Nat.min_le_right _ _) (by omega) ev' (ph_B_0 k3) (ph_B_1 k3) ⟨rfl, ph_mk R⟩ (ph_B k3) 0 (by omega)⟩
    refine br_c (fun z => ?_) (fun z => ?_)
    · obtain ⟨c, hc, rfl⟩ := nI_of (x := k3) (Int32.not_lt.mpr z)
      by_cases y : c < 24
      · have e : ph_B (nI c) = c := by rw [ph_B_p hc]; omega
        rw [e] at Y
        exact ⟨24 - c + 1, ph_bX (by omega) ev (24 - c) c (by omega) Y⟩
      · have e : ph_B (nI c) = 24 := by rw [ph_B_p hc]; omega
        rw [e] at Y
        refine ⟨1, ?_⟩
        rw [wX_begins_27]
        exact br_t (nI_le (a := 24) (by omega) hc) Y
    · have z' : k3 < 0 := Int32.not_le.mp z
      rw [ph_B_n z'] at Y
      exact ⟨25, ph_bX (by omega) ev 24 0 (by omega) Y⟩
theorem i_vc_begins {k : Nat} {u : SX} {v : SY} (I : i_Rel k u v) (hk : k + 4 ≤ 2048) (v1 : Int32) (v2 : Int32) (v3 : Int32) : wpX_begins (fun r u' => wpY_begins (fun r' v' => r' = r ∧ i_Rel (k + 4) u' v') v v1 v2 v3) u v1 v2 v3 := by
  obtain ⟨n, wd, ln, q, np, tr, eb, rw, sk, pl, rfl, rfl, R⟩ := I
  have A : ∀ {v2 : Int32}, (v2 < 0 ∨ nI 6 ≤ v2) → wpX_begins (fun r u' => wpY_begins (fun r' v' => r' = r ∧ i_Rel (k + 4) u' v') (nI n, ln, wd, q, rw, sk, pl) v1 v2 v3) (nI n, nI (ph_c q n).1, nI (ph_c q n).2, wd, ln, q, np, tr, eb) v1 v2 v3 := fun {v2} h => by
    unfold wpX_begins
    dsimp only
    refine ph_eeX0 h ?_
    dsimp only
    refine br_t rfl ?_
    unfold wpY_begins
    dsimp only
    refine ph_fdY0 h ?_
    dsimp only
    exact ⟨1, ph_bYn ⟨rfl, ph_mk R⟩⟩
  rcases pk_ix v2 (n := 6) (by omega) with h | h | ⟨d, hd, rfl⟩
  · exact A (Or.inl h)
  · exact A (Or.inr h)
  · exact ph_begX R hd
/-- the reference, where b is no place -/
theorem ph_endY {n k : Nat} {k1 d1 k3 : Int32} {wd ln q np tr eb rw sk pl : Nat → Int32} (R : ph_R n wd ln q) (hx : k3 < 0 ∨ nI 24 ≤ k3) :
    wpY_ends (fun r' v' => r' = -1 ∧ i_Rel (k + 4) (nI n, nI (ph_c q n).1, nI (ph_c q n).2, wd, ln, q, np, tr, eb) v') (nI n, ln, wd, q, rw, sk, pl) k1 d1 k3 := by
  have hn := R.1
  unfold wpY_ends
  dsimp only
  have A : ∀ {d1 : Int32}, (d1 < 0 ∨ nI 6 ≤ d1) → wpY_find (fun r_1 u => ∃ n11 : Nat, wY_ends_11 (fun r' v' => r' = -1 ∧ i_Rel (k + 4) (nI n, nI (ph_c q n).1, nI (ph_c q n).2, wd, ln, q, np, tr, eb) v') k3 r_1 u.1 u.2.1 u.2.2.1 u.2.2.2.1 u.2.2.2.2.1 u.2.2.2.2.2.1 u.2.2.2.2.2.2 n11 0) (nI n, ln, wd, q, rw, sk, pl) k1 d1 := fun {d1} h =>
    ph_fdY0 h ⟨1, ph_lYn ⟨rfl, ph_mk R⟩⟩
  rcases pk_ix d1 (n := 6) (by omega) with h | h | ⟨d, hd, rfl⟩
  · exact A (Or.inl h)
  · exact A (Or.inr h)
  · refine ph_fdY R hd (fun _ rw sk pl => ?_) (fun j h rw sk pl ev => ?_)
    · dsimp only
      exact ⟨1, ph_lYn ⟨rfl, ph_mk R⟩⟩
    · obtain ⟨_, jn, _⟩ := ph_fd_s R h
      dsimp only
      exact ⟨1, ph_lYo (by omega) hx ⟨rfl, ph_mk R⟩⟩
theorem ph_endX {n k b : Nat} {k1 : Int32} {wd ln q np tr eb rw sk pl : Nat → Int32} {d : Nat} (R : ph_R n wd ln q) (hd : d < 6) (hb : b < 24) :
    wpX_ends (fun r u' => wpY_ends (fun r' v' => r' = r ∧ i_Rel (k + 4) u' v') (nI n, ln, wd, q, rw, sk, pl) k1 (nI d) (nI b)) (nI n, nI (ph_c q n).1, nI (ph_c q n).2, wd, ln, q, np, tr, eb) k1 (nI d) (nI b) := by
  have hn := R.1
  unfold wpX_ends
  dsimp only
  refine br_f (nI_pos (by omega)) (br_t (nI_lt (b := 24) hb (by decide)) ?_)
  refine ph_eeX R hd (fun h => ?_) (fun j h np tr eb ev => ?_)
  · dsimp only
    refine br_t rfl ?_
    unfold wpY_ends
    dsimp only
    refine ph_fdY R hd (fun _ rw sk pl => ?_) (fun j' h' => absurd (h.symm.trans h') (by simp))
    dsimp only
    exact ⟨1, ph_lYn ⟨rfl, ph_mk R⟩⟩
  · obtain ⟨_, jn, _⟩ := ph_fd_s R h
    dsimp only
    refine br_f (ph_neN (by omega)) ?_
    rw [ph_ix (j + 1) b, nI_clamp (n := 24 * (j + 1) + b) (by omega), ev b hb]
    refine ⟨vp_in_nI (by omega) (by decide), ?_⟩
    unfold wpX_lowestBit
    refine ⟨25, ph_lX 24 0 (by omega) ?_⟩
    unfold wpY_ends
    dsimp only
    refine ph_fdY R hd (fun h' => absurd (h.symm.trans h') (by simp)) (fun j' h' rw sk pl ev' => ?_)
    have e : j' = j := by
      have := h.symm.trans h'
      cases this
      rfl
    subst e
    dsimp only
    exact ⟨25, ph_lY (by omega) hb (ev' b hb) 24 0 (by omega) ⟨rfl, ph_mk R⟩⟩
theorem i_vc_ends {k : Nat} {u : SX} {v : SY} (I : i_Rel k u v) (hk : k + 4 ≤ 2048) (v1 : Int32) (v2 : Int32) (v3 : Int32) : wpX_ends (fun r u' => wpY_ends (fun r' v' => r' = r ∧ i_Rel (k + 4) u' v') v v1 v2 v3) u v1 v2 v3 := by
  obtain ⟨n, wd, ln, q, np, tr, eb, rw, sk, pl, rfl, rfl, R⟩ := I
  rcases pk_ix v3 (n := 24) (by omega) with h | h | ⟨b, hb, rfl⟩
  · unfold wpX_ends
    dsimp only
    exact br_t h (ph_endY R (Or.inl h))
  · unfold wpX_ends
    dsimp only
    refine br_c (fun _ => ph_endY R (Or.inr h)) (fun _ => br_f (Int32.not_lt.mpr h) (ph_endY R (Or.inr h)))
  · have A : ∀ {v2 : Int32}, (v2 < 0 ∨ nI 6 ≤ v2) → wpX_ends (fun r u' => wpY_ends (fun r' v' => r' = r ∧ i_Rel (k + 4) u' v') (nI n, ln, wd, q, rw, sk, pl) v1 v2 (nI b)) (nI n, nI (ph_c q n).1, nI (ph_c q n).2, wd, ln, q, np, tr, eb) v1 v2 (nI b) := fun {v2} h => by
      unfold wpX_ends
      dsimp only
      refine br_f (nI_pos (by omega)) (br_t (nI_lt (b := 24) hb (by decide)) ?_)
      refine ph_eeX0 h ?_
      dsimp only
      refine br_t rfl ?_
      unfold wpY_ends
      dsimp only
      refine ph_fdY0 h ?_
      dsimp only
      exact ⟨1, ph_lYn ⟨rfl, ph_mk R⟩⟩
    rcases pk_ix v2 (n := 6) (by omega) with h | h | ⟨d, hd, rfl⟩
    · exact A (Or.inl h)
    · exact A (Or.inr h)
    · exact ph_endX R hd hb
end
