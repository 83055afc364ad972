/-! what both sides stand for: texts, kept changes -/
abbrev ATx : Type := Int × (Int → Int) × (Int → Int → Int)
abbrev AKp : Type := Int × (Int → Int) × (Int → Int) × (Int → Int) × (Int → Int → Int)
theorem jm_ext {M N : JM} (h : ∀ k a j, M k a j = N k a j) : M = N := funext fun k => funext fun a => funext fun j => h k a j
def CT (X : Int) (M : JM) (T : ATx) : Prop := M 2402 (X + 1) 0 = T.1 ∧ ∀ t, 0 ≤ t → t < T.1 → M 2901 (X + (4 + 2 * t)) 0 = T.2.1 t ∧ ∀ i, 0 ≤ i → i < T.2.1 t → M 2 (X + (5 + 2 * t)) i = T.2.2 t i
def RT (X : Int) (M : JM) (T : ATx) : Prop := M 3200 (X + 218) 0 = T.1 ∧ ∀ t, 0 ≤ t → t < T.1 → M 2 (X + 219) t = T.2.1 t ∧ ∀ i, 0 ≤ i → i < T.2.1 t → M 2 (X + 220) (240 * t + i) = T.2.2 t i
/-- a text's own facts -/
def AU (n : Int) (f : Int → Int) : Prop := 0 ≤ n ∧ n ≤ 240 ∧ ∀ i, 0 ≤ i → i < n → 0 ≤ f i ∧ f i ≤ 65535
def AT (T : ATx) : Prop := 0 ≤ T.1 ∧ T.1 ≤ 40 ∧ ∀ t, 0 ≤ t → t < T.1 → AU (T.2.1 t) (T.2.2 t)
def KSlot (X : Int) (M : JM) (s t b l : Int) (u : Int → Int) : Prop := M 2101 (X + (84 + 3 * s)) 0 = t ∧ M 2102 (X + (84 + 3 * s)) 0 = b ∧ (b = 0 → M 2901 (X + (85 + 3 * s)) 0 = l ∧ ∀ i, 0 ≤ i → i < l → M 2 (X + (86 + 3 * s)) i = u i)
def CK (X n : Int) (M : JM) (K : AKp) : Prop := M 2404 (X + 1) 0 = K.1 ∧ (0 ≤ M 2403 (X + 1) 0 ∧ M 2403 (X + 1) 0 < 20) ∧ (0 ≤ M 2405 (X + 1) 0 ∧ M 2405 (X + 1) 0 ≤ n ∧ n ≤ 1000000) ∧ ∀ k, 0 ≤ k → k < K.1 → KSlot X M ((M 2403 (X + 1) 0 + k) % 20) (K.2.1 k) (K.2.2.1 k) (K.2.2.2.1 k) (K.2.2.2.2 k)
def RK (X : Int) (M : JM) (K : AKp) : Prop := M 3203 (X + 218) 0 = K.1 ∧ ∀ k, 0 ≤ k → k < K.1 → M 2 (X + 221) k = K.2.1 k ∧ M 2 (X + 222) k = K.2.2.1 k ∧ (K.2.2.1 k = 0 → M 2 (X + 223) k = K.2.2.2.1 k ∧ ∀ i, 0 ≤ i → i < K.2.2.2.1 k → M 2 (X + 224) (240 * k + i) = K.2.2.2.2 k i)
/-- one kept change fits in between the numbers of texts ahead of it and behind it -/
def AK1 (p q t b l : Int) (u : Int → Int) : Prop := 0 ≤ p ∧ ((b = 1 ∧ t = p ∧ q = p + 1) ∨ (b = 0 ∧ 0 ≤ t ∧ t < p ∧ q = p ∧ AU l u))
def AK (m : Int) (K : AKp) : Prop := 0 ≤ K.1 ∧ K.1 ≤ 20 ∧ ∃ g : Int → Int, g K.1 = m ∧ ∀ k, 0 ≤ k → k < K.1 → AK1 (g k) (g (k + 1)) (K.2.1 k) (K.2.2.1 k) (K.2.2.2.1 k) (K.2.2.2.2 k)
/-- one more change; of twenty the oldest is lost -/
noncomputable def kpush (K : AKp) (t b l : Int) (u : Int → Int) : AKp :=
  if K.1 = 20 then (20, fun k => if k = 19 then t else K.2.1 (k + 1), fun k => if k = 19 then b else K.2.2.1 (k + 1), fun k => if k = 19 then l else K.2.2.2.1 (k + 1), fun k => if k = 19 then u else K.2.2.2.2 (k + 1))
  else (K.1 + 1, fun k => if k = K.1 then t else K.2.1 k, fun k => if k = K.1 then b else K.2.2.1 k, fun k => if k = K.1 then l else K.2.2.2.1 k, fun k => if k = K.1 then u else K.2.2.2.2 k)
theorem AK.push {m q t b l : Int} {u : Int → Int} {K : AKp} (h : AK m K) (h1 : AK1 m q t b l u) : AK q (kpush K t b l u) := by
  obtain ⟨a1, a2, g, g1, g2⟩ := h
  unfold kpush
  by_cases hc : K.1 = 20
  · rw [if_pos hc]
    refine ⟨by show (0 : Int) ≤ 20; decide, by show (20 : Int) ≤ 20; decide, fun k => if k = 20 then q else g (k + 1), if_pos rfl, fun k k0 k1 => ?_⟩
    have k1 : k < 20 := k1
    show AK1 (if k = 20 then q else g (k + 1)) (if k + 1 = 20 then q else g (k + 1 + 1)) (if k = 19 then t else _) (if k = 19 then b else _) (if k = 19 then l else _) (if k = 19 then u else _)
    rw [if_neg (by omega)]
    by_cases hk : k = 19
    · subst hk
      rw [if_pos (by decide), if_pos rfl, if_pos rfl, if_pos rfl, if_pos rfl, show (19 : Int) + 1 = K.1 by omega, g1]
      exact h1
    · rw [if_neg (by omega), if_neg hk, if_neg hk, if_neg hk, if_neg hk]
      exact g2 (k + 1) (by omega) (by omega)
  · rw [if_neg hc]
    refine ⟨by show 0 ≤ K.1 + 1; omega, by show K.1 + 1 ≤ 20; omega, fun k => if k = K.1 + 1 then q else g k, if_pos rfl, fun k k0 k1 => ?_⟩
    have k1 : k < K.1 + 1 := k1
    show AK1 (if k = K.1 + 1 then q else g k) (if k + 1 = K.1 + 1 then q else g (k + 1)) (if k = K.1 then t else _) (if k = K.1 then b else _) (if k = K.1 then l else _) (if k = K.1 then u else _)
    rw [if_neg (by omega)]
    by_cases hk : k = K.1
    · subst hk
      rw [if_pos rfl, if_pos rfl, if_pos rfl, if_pos rfl, if_pos rfl, g1]
      exact h1
    · rw [if_neg (by omega), if_neg hk, if_neg hk, if_neg hk, if_neg hk]
      exact g2 k (by omega) (by omega)
section REFSMALL
variable {G : JG} {Q : Int → JM → Prop} {M : JM} {X : Int}
theorem r_in {a b c : Int} (h1 : b ≤ a → a ≤ c → Q 1 M) (h0 : ¬ (b ≤ a ∧ a ≤ c) → Q 0 M) : Runs G 170 0 0 [(2, a), (2, b), (2, c)] M Q := by
  refine rn_X12_in a b c M (sg_X12_in_0 a b c M ?_)
  unfold jlcmp
  refine ⟨fun g => ⟨Or.inl rfl, h0 ?_⟩, fun g => ⟨fun g2 => ⟨Or.inl rfl, h0 ?_⟩, fun g2 => ⟨Or.inr rfl, h1 ?_ ?_⟩⟩⟩ <;> (repeat' split at *) <;> omega
theorem r_isText {t : Int} {T : ATx} (W : WSt X M) (R : RT X M T) (A : AT T) (h1 : 0 ≤ t → t < T.1 → Q 1 M) (h0 : ¬ (0 ≤ t ∧ t < T.1) → Q 0 M) : Runs G 171 0 0 [(1, X + 218), (0, t)] M Q := by
  obtain ⟨a1, a2, -⟩ := A
  refine rn_X12_isText _ _ M (sg_X12_isText_0 _ _ M ?_)
  rw [R.1]
  exact ⟨w_model_t W, by unfold jR; omega, r_in (fun g1 g2 _ => ⟨Or.inr rfl, h1 g1 (by omega)⟩) (fun g _ => ⟨Or.inl rfl, h0 (by omega)⟩)⟩
theorem r_unit {t i : Int} {T : ATx} (W : WSt X M) (R : RT X M T) (A : AT T) (h0 : 0 ≤ t) (h1 : t < T.1) (h2 : 0 ≤ i) (h3 : i < T.2.1 t) (h : Q (T.2.2 t i) M) : Runs G 174 0 0 [(1, X + 218), (0, t), (0, i)] M Q := by
  obtain ⟨a1, a2, a3⟩ := A
  obtain ⟨u1, u2, -⟩ := a3 t h0 h1
  have e := (R.2 t h0 h1).2 i h2 h3
  refine rn_X12_unit _ _ _ M (sg_X12_unit_0 _ _ _ M ?_)
  rw [w_model_1302 W, w_m1302_t W, w_m1302_n W, e]
  exact ⟨w_model_t W, by unfold jR; omega, by unfold jR; omega, ⟨rfl, by omega, by omega⟩, h⟩
theorem r_isPlace {t i : Int} {T : ATx} (W : WSt X M) (R : RT X M T) (A : AT T) (h1 : 0 ≤ t → t < T.1 → 0 ≤ i → i < T.2.1 t → Q 1 M) (h0 : ¬ (0 ≤ t ∧ t < T.1 ∧ 0 ≤ i ∧ i < T.2.1 t) → Q 0 M) : Runs G 172 0 0 [(1, X + 218), (0, t), (0, i)] M Q := by
  refine rn_X12_isPlace _ _ _ M (sg_X12_isPlace_0 _ _ _ M ⟨w_model_t W, r_isText W R A (fun g1 g2 _ => ⟨fun g => absurd g (by decide), fun _ => ?_⟩) (fun g _ => ⟨fun _ => ⟨Or.inl rfl, h0 (by omega)⟩, fun g2 => absurd rfl g2⟩)⟩)
  obtain ⟨a1, a2, a3⟩ := A
  obtain ⟨u1, u2, -⟩ := a3 t g1 g2
  rw [w_model_1301 W, w_m1301_t W, w_m1301_n W, (R.2 t g1 g2).1]
  exact ⟨w_model_t W, ⟨rfl, g1, by omega⟩, by unfold jR; omega, r_in (fun g3 g4 _ => ⟨fun g => absurd g (by decide), fun _ => ⟨Or.inr rfl, h1 g1 g2 g3 (by omega)⟩⟩) (fun g _ => ⟨fun _ => ⟨Or.inl rfl, h0 (by omega)⟩, fun g2 => absurd rfl g2⟩)⟩
theorem r_isPart {t f e : Int} {T : ATx} (W : WSt X M) (R : RT X M T) (A : AT T) (h1 : 0 ≤ t → t < T.1 → 0 ≤ f → f ≤ e → e ≤ T.2.1 t → Q 1 M) (h0 : ¬ (0 ≤ t ∧ t < T.1 ∧ 0 ≤ f ∧ f ≤ e ∧ e ≤ T.2.1 t) → Q 0 M) : Runs G 173 0 0 [(1, X + 218), (0, t), (0, f), (0, e)] M Q := by
  refine rn_X12_isPart _ _ _ _ M (sg_X12_isPart_0 _ _ _ _ M ⟨w_model_t W, r_isText W R A (fun g1 g2 _ => ⟨fun g => absurd g (by decide), fun _ => ⟨fun g => ⟨Or.inl rfl, h0 (by omega)⟩, fun g3 => ⟨fun g => ⟨Or.inl rfl, h0 (by omega)⟩, fun g4 => ?_⟩⟩⟩) (fun g _ => ⟨fun _ => ⟨Or.inl rfl, h0 (by omega)⟩, fun g2 => absurd rfl g2⟩)⟩)
  obtain ⟨a1, a2, a3⟩ := A
  rw [w_model_1301 W, w_m1301_t W, w_m1301_n W, (R.2 t g1 g2).1]
  exact ⟨w_model_t W, ⟨rfl, g1, by omega⟩, fun g => ⟨Or.inl rfl, h0 (by omega)⟩, fun g => ⟨Or.inr rfl, h1 g1 g2 (by omega) (by omega) (by omega)⟩⟩
/-- only the reference's texts have changed -/
def Rtx (X : Int) (M M' : JM) : Prop := ∀ k a j, ¬ (k = 2 ∧ (a = X + 219 ∨ a = X + 220)) → M' k a j = M k a j
theorem Rtx.refl (X : Int) (M : JM) : Rtx X M M := fun _ _ _ _ => rfl
theorem Rtx.trans {M M' M'' : JM} (h : Rtx X M M') (g : Rtx X M' M'') : Rtx X M M'' := fun k a j h1 => (g k a j h1).trans (h k a j h1)
theorem Rtx.W {M' : JM} (h : Rtx X M M') (W : WSt X M) : WSt X M' := W.keep fun k a j _ _ hk => h k a j (by omega)
/-- a unit at the end of text t -/
noncomputable def aput (T : ATx) (t u : Int) : ATx := (T.1, fun s => if s = t then T.2.1 t + 1 else T.2.1 s, fun s i => if s = t ∧ i = T.2.1 t then u else T.2.2 s i)
theorem AT.put {T : ATx} {t u : Int} (A : AT T) (h2 : T.2.1 t < 240) (h3 : 0 ≤ u) (h4 : u ≤ 65535) : AT (aput T t u) := by
  obtain ⟨a1, a2, a3⟩ := A
  refine ⟨a1, a2, fun s g1 g2 => ?_⟩
  have g2 : s < T.1 := g2
  obtain ⟨u1, u2, u3⟩ := a3 s g1 g2
  show AU (if s = t then T.2.1 t + 1 else T.2.1 s) (fun i => if s = t ∧ i = T.2.1 t then u else T.2.2 s i)
  by_cases hs : s = t
  · subst hs
    rw [if_pos rfl]
    refine ⟨by omega, by omega, fun i i1 i2 => ?_⟩
    dsimp only
    by_cases hi : i = T.2.1 s
    · rw [if_pos ⟨rfl, hi⟩]; exact ⟨h3, h4⟩
    · rw [if_neg (fun q => hi q.2)]; exact u3 i i1 (by omega)
  · rw [if_neg hs]
    refine ⟨u1, u2, fun i i1 i2 => ?_⟩
    dsimp only
    rw [if_neg (fun q => hs q.1)]; exact u3 i i1 i2
theorem r_put {t u : Int} {T : ATx} (W : WSt X M) (R : RT X M T) (A : AT T) (h0 : 0 ≤ t) (h1 : t < T.1) (h2 : T.2.1 t < 240) (h : ∀ M', Rtx X M M' → RT X M' (aput T t u) → Q 0 M') : Runs G 177 0 0 [(1, X + 218), (0, t), (0, u)] M Q := by
  obtain ⟨a1, a2, a3⟩ := A
  obtain ⟨u1, u2, -⟩ := a3 t h0 h1
  have e := (R.2 t h0 h1).1
  refine rn_X12_put _ _ _ M (sg_X12_put_0 _ _ _ M ?_)
  rw [w_model_1302 W, w_model_1301 W, w_m1302_t W, w_m1302_n W, w_m1301_t W, w_m1301_n W, e, jset_a (show X + 219 ≠ X + 220 by omega), e]
  refine ⟨w_model_t W, by unfold jR; omega, w_model_t W, ⟨rfl, h0, by omega⟩, by unfold jR; omega, ⟨rfl, by omega, by omega⟩, w_model_t W, ⟨rfl, h0, by omega⟩, by unfold jR; omega, ⟨rfl, h0, by omega⟩, h _ (fun k a j g => ?_) ⟨R.1, fun s g1 g2 => ?_⟩⟩
  · unfold jset
    rw [if_neg (by omega), if_neg (by omega)]
  · have g2 : s < T.1 := g2
    obtain ⟨r1, r2⟩ := R.2 s g1 g2
    obtain ⟨v1, v2, -⟩ := a3 s g1 g2
    show _ = (if s = t then T.2.1 t + 1 else T.2.1 s) ∧ ∀ i, 0 ≤ i → i < (if s = t then T.2.1 t + 1 else T.2.1 s) → _ = (if s = t ∧ i = T.2.1 t then u else T.2.2 s i)
    by_cases hs : s = t
    · subst hs
      rw [if_pos rfl]
      refine ⟨jset_s, fun i i1 i2 => ?_⟩
      rw [jset_a (show X + 220 ≠ X + 219 by omega)]
      by_cases hi : i = T.2.1 s
      · rw [if_pos ⟨rfl, hi⟩, hi, jset_s]
      · rw [if_neg (fun q => hi q.2), jset_j (by omega)]; exact r2 i i1 (by omega)
    · rw [if_neg hs, jset_j hs, jset_a (show X + 219 ≠ X + 220 by omega)]
      refine ⟨r1, fun i i1 i2 => ?_⟩
      rw [if_neg (fun q => hs q.1), jset_a (show X + 220 ≠ X + 219 by omega), jset_j (by omega)]
      exact r2 i i1 i2
end REFSMALL
