theorem ph_b1 : ∀ i, i < 32 → bt 1 i = decide (i = 0) := by decide +kernel
theorem ph_bit (x : Int32) (f : Nat) (hf : f < 32) : (x >>> (nI f &&& 31)) &&& 1 = 1 ↔ bt x f = true := by
  constructor
  · intro h
    have h0 := congrArg (fun y => bt y 0) h
    rw [b_and, b_sshr f hf x (by omega), ph_b1 0 (by omega)] at h0
    simpa [hf] using h0
  · intro h
    apply b_ext
    intro i hi
    rw [b_and, b_sshr f hf x hi, ph_b1 i hi]
    by_cases z : i = 0
    · subst z; simp [hf, h]
    · simp [z]
theorem ph_sh0 (x : Int32) (e : Nat) (he : e < 32) : x >>> (nI e &&& 31) = 0 ↔ ∀ f, e ≤ f → f < 32 → bt x f = false := by
  constructor
  · intro h f h1 h2
    have h0 := congrArg (fun y => bt y (f - e)) h
    rw [b_sshr e he x (by omega), if_pos (by omega), b_0, show e + (f - e) = f by omega] at h0
    exact h0
  · intro h
    apply b_ext
    intro i hi
    rw [b_sshr e he x hi, b_0]
    split
    · exact h _ (by omega) (by omega)
    · exact h 31 (by omega) (by omega)
/-- no bit at 24 or above -/
def ph_lo (x : Int32) : Prop := ∀ f, 24 ≤ f → bt x f = false
def ph_then (x : Int32) (r : Nat → Int32) (k : Nat) : Nat → Int32
  | 0 => 0
  | e + 1 => if (x >>> (nI e &&& 31)) &&& 1 = 1 then ph_then x r k e ||| r (e + k) else ph_then x r k e
def ph_fill (x : Int32) : Nat → Int32
  | 0 => 0
  | e + 1 => if x >>> (nI e &&& 31) = 0 then ph_fill x e else ph_fill x e ||| ((1 : Int32) <<< (nI e &&& 31))
def ph_reach (r : Nat → Int32) : Nat → Int32
  | 0 => 0
  | b + 1 => ph_reach r b ||| ph_fill (r b) 24
/-- the reference's inner loop, from acc -/
def ph_yin (x acc : Int32) : Nat → Int32
  | 0 => acc
  | f + 1 => if (x >>> (nI f &&& 31)) &&& 1 = 1 then ph_yin x acc f ||| (((2 : Int32) <<< (nI f &&& 31)) - 1) else ph_yin x acc f
def ph_yw (r : Nat → Int32) : Nat → Int32
  | 0 => 0
  | c + 1 => ph_yin (r c) (ph_yw r c) 24
theorem ph_1l : ∀ e, e < 24 → ∀ i, i < 32 → bt ((1 : Int32) <<< (nI e &&& 31)) i = decide (i = e) := by decide +kernel
theorem ph_2l : ∀ f, f < 24 → ∀ i, i < 32 → bt (((2 : Int32) <<< (nI f &&& 31)) - 1) i = decide (i ≤ f) := by decide +kernel
theorem ph_fill_b (x : Int32) (hx : ph_lo x) {i : Nat} (hi : i < 32) : ∀ m, m ≤ 24 → (bt (ph_fill x m) i = true ↔ i < m ∧ ∃ f, i ≤ f ∧ f < 24 ∧ bt x f = true) := by
  intro m
  induction m with
  | zero => intro _; simp [ph_fill, b_0]
  | succ e ih =>
    intro hm
    have ih := ih (by omega)
    by_cases z : x >>> (nI e &&& 31) = 0
    · rw [ph_fill, if_pos z, ih]
      have z' := (ph_sh0 x e (by omega)).mp z
      constructor
      · intro ⟨a, b⟩; exact ⟨by omega, b⟩
      · intro ⟨a, f, b, c, d⟩
        refine ⟨?_, f, b, c, d⟩
        rcases Nat.lt_or_ge i e with h | h
        · exact h
        · rw [z' f (by omega) (by omega)] at d; exact absurd d (by decide)
    · rw [ph_fill, if_neg z, b_or, Bool.or_eq_true, ih, ph_1l e (by omega) i hi, decide_eq_true_eq]
      constructor
      · intro h
        rcases h with ⟨a, b⟩ | h
        · exact ⟨by omega, b⟩
        · subst h
          refine ⟨by omega, ?_⟩
          apply Classical.byContradiction
          intro n
          apply z
          rw [ph_sh0 x i (by omega)]
          intro f h1 h2
          rcases Nat.lt_or_ge f 24 with h | h
          · cases hb : bt x f
            · rfl
            · exact absurd ⟨f, h1, h, hb⟩ n
          · exact hx f h
      · intro ⟨a, b⟩
        rcases Nat.lt_or_ge i e with h | h
        · exact Or.inl ⟨h, b⟩
        · exact Or.inr (by omega)
theorem ph_yin_b (x acc : Int32) {i : Nat} (hi : i < 32) : ∀ m, m ≤ 24 → (bt (ph_yin x acc m) i = true ↔ bt acc i = true ∨ ∃ f, i ≤ f ∧ f < m ∧ bt x f = true) := by
  intro m
  induction m with
  | zero =>
    intro _
    rw [ph_yin]
    constructor
    · exact Or.inl
    · intro h
      rcases h with h | ⟨f, a, b, c⟩
      · exact h
      · omega
  | succ k ih =>
    intro hm
    have ih := ih (by omega)
    have hb := ph_bit x k (by omega)
    by_cases z : (x >>> (nI k &&& 31)) &&& 1 = 1
    · have hk := hb.mp z
      rw [ph_yin, if_pos z, b_or, Bool.or_eq_true, ih, ph_2l k (by omega) i hi, decide_eq_true_eq]
      constructor
      · intro h
        rcases h with (h | ⟨f, a, b, c⟩) | h
        · exact Or.inl h
        · exact Or.inr ⟨f, a, by omega, c⟩
        · exact Or.inr ⟨k, h, by omega, hk⟩
      · intro h
        rcases h with h | ⟨f, a, b, c⟩
        · exact Or.inl (Or.inl h)
        · exact Or.inr (by omega)
    · have hk : ¬ bt x k = true := fun h => z (hb.mpr h)
      rw [ph_yin, if_neg z, ih]
      constructor
      · intro h
        rcases h with h | ⟨f, a, b, c⟩
        · exact Or.inl h
        · exact Or.inr ⟨f, a, by omega, c⟩
      · intro h
        rcases h with h | ⟨f, a, b, c⟩
        · exact Or.inl h
        · refine Or.inr ⟨f, a, ?_, c⟩
          rcases Nat.lt_or_ge f k with h | h
          · exact h
          · have e : f = k := by omega
            subst e; exact absurd c hk
theorem ph_yin_fill (x acc : Int32) (hx : ph_lo x) : ph_yin x acc 24 = acc ||| ph_fill x 24 := by
  apply b_ext
  intro i hi
  rw [Bool.eq_iff_iff, ph_yin_b x acc hi 24 (by omega), b_or, Bool.or_eq_true, ph_fill_b x hx hi 24 (by omega)]
  constructor
  · intro h
    rcases h with h | ⟨f, a, b, c⟩
    · exact Or.inl h
    · exact Or.inr ⟨by omega, f, a, b, c⟩
  · intro h
    rcases h with h | ⟨_, f, a, b, c⟩
    · exact Or.inl h
    · exact Or.inr ⟨f, a, b, c⟩
theorem ph_yw_reach (r : Nat → Int32) : ∀ m, (∀ c, c < m → ph_lo (r c)) → ph_yw r m = ph_reach r m := by
  intro m
  induction m with
  | zero => intro _; rfl
  | succ c ih =>
    intro h
    rw [ph_yw, ph_reach, ph_yin_fill _ _ (h c (by omega)), ih (fun j hj => h j (by omega))]
theorem ph_lo0 : ph_lo 0 := fun f _ => b_0 f
theorem ph_loOr {x y : Int32} (hx : ph_lo x) (hy : ph_lo y) : ph_lo (x ||| y) := fun f h => by rw [b_or, hx f h, hy f h]; rfl
theorem ph_loAnd {x y : Int32} (hx : ph_lo x) : ph_lo (x &&& y) := fun f h => by rw [b_and, hx f h]; rfl
theorem ph_lo1 {e : Nat} (he : e < 24) : ph_lo ((1 : Int32) <<< (nI e &&& 31)) := fun f h => by
  rcases Nat.lt_or_ge f 32 with g | g
  · rw [ph_1l e he f g, decide_eq_false (by omega)]
  · exact b_big g
theorem ph_loThen (x : Int32) (r : Nat → Int32) (k : Nat) : ∀ m, (∀ e, e < m → ph_lo (r (e + k))) → ph_lo (ph_then x r k m) := by
  intro m
  induction m with
  | zero => intro _; exact ph_lo0
  | succ e ih =>
    intro h
    have i := ih (fun j hj => h j (by omega))
    rw [ph_then]
    split
    · exact ph_loOr i (h e (by omega))
    · exact i
