/-! step: squeeze -/
/-- the first row with these two numbers ahead -/
def frw (l : List TR) (p u q : Int) : Prop := 0 ≤ q ∧ q < l.length ∧ rowx l q 0 = p ∧ rowx l q 1 = u ∧ ∀ j : Int, 0 ≤ j → j < q → ¬ (rowx l j 0 = p ∧ rowx l j 1 = u)
def nrw (l : List TR) (p u : Int) : Prop := ∀ j : Int, 0 ≤ j → j < l.length → ¬ (rowx l j 0 = p ∧ rowx l j 1 = u)
theorem frw_uniq {l : List TR} {p u q r : Int} (h : frw l p u q) (h' : frw l p u r) : q = r := by
  rcases Int.lt_trichotomy q r with e | e | e
  · exact absurd ⟨h.2.2.1, h.2.2.2.1⟩ (h'.2.2.2.2 q h.1 e)
  · exact e
  · exact absurd ⟨h'.2.2.1, h'.2.2.2.1⟩ (h.2.2.2.2 r h'.1 e)
/-- squeezing by phrases, from a state on: k places are left -/
def FP (f : Int → Int) : Nat → List TR → Int → Int → List TR → Prop
  | 0, l, p, _, L => L = if p = 0 then l else l ++ [(p, -1, 0)]
  | k + 1, l, p, i, L => (∃ q, frw l p (f i) q ∧ FP f k l (q + 1) (i + 1) L) ∨ (nrw l p (f i) ∧ FP f k (l ++ [(p, f i, 0)]) 0 (i + 1) L)
theorem FP_uniq {f : Int → Int} : ∀ (k : Nat) (l : List TR) (p i : Int) (L L' : List TR), FP f k l p i L → FP f k l p i L' → L = L'
  | 0, l, p, i, L, L', h, h' => h.trans h'.symm
  | k + 1, l, p, i, L, L', h, h' => by
    rcases h with ⟨q, a, t⟩ | ⟨a, t⟩
    · rcases h' with ⟨q', a', t'⟩ | ⟨a', t'⟩
      · rw [frw_uniq a a'] at t
        exact FP_uniq k _ _ _ _ _ t t'
      · exact absurd ⟨a.2.2.1, a.2.2.2.1⟩ (a' q a.1 a.2.1)
    · rcases h' with ⟨q', a', t'⟩ | ⟨a', t'⟩
      · exact absurd ⟨a'.2.2.1, a'.2.2.2.1⟩ (a q' a'.1 a'.2.1)
      · exact FP_uniq k _ _ _ _ _ t t'
theorem phl_app {l : List TR} {r : TR} : ∀ (k : Nat) (p : Int), p ≤ l.length → phl (l ++ [r]) k p = phl l k p ∨ ¬ (∀ j : Int, 0 ≤ j → j < l.length → rowx l j 0 ≤ j) := by
  intro k
  induction k with
  | zero => exact fun p _ => Or.inl rfl
  | succ k ih =>
    intro p hp
    rcases Classical.em (∀ j : Int, 0 ≤ j → j < l.length → rowx l j 0 ≤ j) with g | g
    · left
      show (if p ≤ 0 then 0 else phl (l ++ [r]) k (rowx (l ++ [r]) (p - 1) 0) + 1) = (if p ≤ 0 then 0 else phl l k (rowx l (p - 1) 0) + 1)
      by_cases h : p ≤ 0
      · rw [if_pos h, if_pos h]
      · rw [if_neg h, if_neg h, rowx_app (by omega) (by omega)]
        have := g (p - 1) (by omega) (by omega)
        rcases ih (rowx l (p - 1) 0) (by omega) with e | e
        · rw [e]
        · exact absurd g e
    · exact Or.inr g
theorem phl_fuel {l : List TR} (g : ∀ j : Int, 0 ≤ j → j < l.length → rowx l j 0 ≤ j) : ∀ (k k' : Nat) (p : Int), p ≤ k → p ≤ k' → p ≤ l.length → phl l k p = phl l k' p := by
  intro k
  induction k with
  | zero =>
    intro k' p h h' hl
    cases k' with
    | zero => rfl
    | succ k' => exact (if_pos (by omega)).symm
  | succ k ih =>
    intro k' p h h' hl
    cases k' with
    | zero => exact if_pos (by omega)
    | succ k' =>
      show (if p ≤ 0 then 0 else phl l k (rowx l (p - 1) 0) + 1) = (if p ≤ 0 then 0 else phl l k' (rowx l (p - 1) 0) + 1)
      by_cases h0 : p ≤ 0
      · rw [if_pos h0, if_pos h0]
      · rw [if_neg h0, if_neg h0]
        have := g (p - 1) (by omega) (by omega)
        rw [ih k' (rowx l (p - 1) 0) (by omega) (by omega) (by omega)]
/-- how many units the items make -/
noncomputable def phs (l : List TR) (m : Int) : Int := smI (fun k => phl l k.toNat (rowx l k 0) + (if rowx l k 1 = -1 then 0 else 1)) m
theorem phs_app {l : List TR} {r : TR} (g : ∀ j : Int, 0 ≤ j → j < l.length → rowx l j 0 ≤ j) : phs (l ++ [r]) l.length = phs l l.length := by
  unfold phs
  refine smI_c fun k k0 k1 => ?_
  have := g k k0 k1
  rw [rowx_app k0 k1, rowx_app k0 k1]
  rcases @phl_app l r k.toNat (rowx l k 0) (by omega) with e | e
  · rw [e]
  · exact absurd g e
/-- the items so far, the phrase that is under way, the places done -/
def PS (l : List TR) (p i : Int) : Prop := (∀ k : Int, 0 ≤ k → k < l.length → 0 ≤ rowx l k 0 ∧ rowx l k 0 ≤ k ∧ 0 ≤ rowx l k 1 ∧ rowx l k 1 ≤ 65535) ∧ (0 ≤ p ∧ p ≤ l.length) ∧ phs l l.length + phl l l.length p = i ∧ (l.length : Int) ≤ i ∧ (p ≠ 0 → (l.length : Int) < i)
theorem PS_g {l : List TR} {p i : Int} (h : PS l p i) : ∀ j : Int, 0 ≤ j → j < l.length → rowx l j 0 ≤ j := fun j j0 j1 => (h.1 j j0 j1).2.1
theorem phl_z {l : List TR} {k : Nat} : phl l k 0 = 0 := by
  cases k with
  | zero => rfl
  | succ k => exact if_pos (by omega)
theorem PS_found {l : List TR} {p i q u : Int} (h : PS l p i) (hq : frw l p u q) : PS l (q + 1) (i + 1) := by
  refine ⟨h.1, ⟨by have := hq.1; omega, by have := hq.2.1; omega⟩, ?_, by have := h.2.2.2.1; omega, fun _ => by have := h.2.2.2.1; omega⟩
  have g := PS_g h
  have l1 := hq.2.1
  have l0 := hq.1
  obtain ⟨m, hm⟩ : ∃ m, l.length = m + 1 := ⟨l.length - 1, by omega⟩
  have e : phl l l.length (q + 1) = phl l l.length p + 1 := by
    rw [hm]
    show (if q + 1 ≤ 0 then 0 else phl l m (rowx l (q + 1 - 1) 0) + 1) = _
    rw [if_neg (by omega), show q + 1 - 1 = q by omega, hq.2.2.1, ← hm]
    have := g q l0 l1
    rw [hq.2.2.1] at this
    rw [phl_fuel g m l.length p (by omega) (by have := h.2.1.2; omega) h.2.1.2]
  have := h.2.2.1
  omega
theorem PS_new {l : List TR} {p i u : Int} (h : PS l p i) (hu : 0 ≤ u ∧ u ≤ 65535) : PS (l ++ [(p, u, 0)]) 0 (i + 1) := by
  have g := PS_g h
  have hl := @len_app1 l (p, u, 0)
  refine ⟨fun k k0 k1 => ?_, ⟨by omega, by omega⟩, ?_, by have := h.2.2.2.1; omega, fun z => absurd rfl z⟩
  · by_cases hk : k = l.length
    · subst hk
      rw [rowx_last, rowx_last]
      exact ⟨h.2.1.1, h.2.1.2, hu.1, hu.2⟩
    · rw [rowx_app k0 (by omega), rowx_app k0 (by omega)]; exact h.1 k k0 (by omega)
  · have e := @phs_app l (p, u, 0) g
    have s : phs (l ++ [(p, u, 0)]) (l ++ [(p, u, 0)]).length = phs (l ++ [(p, u, 0)]) l.length + (phl (l ++ [(p, u, 0)]) l.length p + 1) := by
      unfold phs
      rw [hl, smI_s (by omega), rowx_last, rowx_last, show ((l.length : Int)).toNat = l.length by omega]
      rw [if_neg (show ¬ fld (p, u, 0) 1 = -1 by show ¬ u = -1; omega)]
      rfl
    have a := @phl_app l (p, u, 0) l.length p h.2.1.2
    have a := a.resolve_right (fun z => z g)
    rw [s, e, a, phl_z]
    have := h.2.2.1
    omega
theorem PS_end {l : List TR} {p n : Int} (h : PS l p n) (hn : n ≤ 240) (L : List TR) (hL : L = if p = 0 then l else l ++ [(p, -1, 0)]) : Ex1 L := by
  have g := PS_g h
  by_cases hp : p = 0
  · rw [if_pos hp] at hL
    subst hL
    refine ⟨fun k k0 k1 => ?_, ?_⟩
    · obtain ⟨a, b, c, d⟩ := h.1 k k0 k1
      exact ⟨a, b, Or.inl ⟨c, d⟩⟩
    · have := h.2.2.1
      rw [hp, phl_z] at this
      show phs L L.length ≤ 240
      omega
  · rw [if_neg hp] at hL
    subst hL
    have hl := @len_app1 l (p, -1, 0)
    refine ⟨fun k k0 k1 => ?_, ?_⟩
    · by_cases hk : k = l.length
      · subst hk
        rw [rowx_last, rowx_last]
        exact ⟨h.2.1.1, h.2.1.2, Or.inr ⟨rfl, by omega⟩⟩
      · rw [rowx_app k0 (by omega), rowx_app k0 (by omega)]
        obtain ⟨a, b, c, d⟩ := h.1 k k0 (by omega)
        exact ⟨a, b, Or.inl ⟨c, d⟩⟩
    · have e := @phs_app l (p, -1, 0) g
      have s : phs (l ++ [(p, -1, 0)]) (l ++ [(p, -1, 0)]).length = phs (l ++ [(p, -1, 0)]) l.length + (phl (l ++ [(p, -1, 0)]) l.length p + 0) := by
        unfold phs
        rw [hl, smI_s (by omega), rowx_last, rowx_last, show ((l.length : Int)).toNat = l.length by omega]
        rw [if_pos (show fld (p, -1, 0) 1 = -1 from rfl)]
        rfl
      have a := (@phl_app l (p, -1, 0) l.length p h.2.1.2).resolve_right (fun z => z g)
      show phs (l ++ [(p, -1, 0)]) (l ++ [(p, -1, 0)]).length ≤ 240
      rw [s, e, a]
      have := h.2.2.1
      omega
theorem PS_0 : PS [] 0 0 := ⟨fun k k0 k1 => by have k1 : k < ((0 : Nat) : Int) := k1; omega, ⟨by omega, by show (0 : Int) ≤ ((0 : Nat) : Int); omega⟩, by show phs [] ((0 : Nat) : Int) + phl [] 0 0 = 0; unfold phs; rw [smI_z (by omega)]; rfl, by show ((0 : Nat) : Int) ≤ 0; omega, fun z => absurd rfl z⟩
section SQ1
variable {G : JG} {X : Int}
section SQ1A
variable {Q : Int → JM → Prop} {M : JM}
theorem c_same {a n j i : Int} {f : Int → Int} (A : Txf M a n f) (h0 : 0 ≤ j) (h1 : j < i) (h2 : i ≤ n) (h : Q (lcp2 n f n f i j) M) : Runs G 43 0 0 [(1, a), (0, j), (0, i)] M Q := by
  obtain ⟨A1, A2, A3, A4, A5, A6⟩ := A
  have fin : ∀ v, 0 ≤ v → i + v ≤ n → (∀ k, 0 ≤ k → k < v → f (i + k) = f (j + k)) → ¬ (i + v < n ∧ j + v < n ∧ f (i + v) = f (j + v)) → Q v M := fun v a b c d => by
    rw [lcp2_eq (c := v) ⟨a, Or.inr ⟨b, by omega⟩, c, d⟩] at h; exact h
  refine lp_X6_sameFrom (fun v0 v1 v2 v3 N => M = N ∧ a = v0 ∧ j = v1 ∧ i = v2 ∧ 0 ≤ v3 ∧ i + v3 ≤ n ∧ ∀ k, 0 ≤ k → k < v3 → f (i + k) = f (j + k)) (fun _ _ _ v3 => (1000 - v3).toNat) ?_ _ _ _ M ⟨rfl, rfl, rfl, rfl, by omega, by omega, fun k k0 k1 => by omega⟩
  rintro v0 v1 v2 v3 N ⟨rfl, rfl, rfl, rfl, i1, i2, i3⟩
  rw [A2]
  refine ⟨by unfold jR; omega, A1, fun q => fin v3 i1 i2 i3 (by omega), fun q => ?_⟩
  rw [A6 (j + v3) (by omega) (by omega), A6 (i + v3) (by omega) (by omega)]
  refine ⟨A1, by unfold jR; omega, ⟨A4, by omega, by omega⟩, A1, by unfold jR; omega, ⟨A4, by omega, by omega⟩, fun e => fin v3 i1 i2 i3 (fun z => e z.2.2.symm), fun e => ⟨by unfold jR; omega, ⟨rfl, rfl, rfl, rfl, by omega, by omega, fun k k0 k1 => ?_⟩, by omega⟩⟩
  by_cases hk : k = v3
  · rw [hk]; exact (Classical.not_not.mp e).symm
  · exact i3 k k0 (by omega)
end SQ1A
theorem FP_f {f : Int → Int} {L p i q : Int} {l l' : List TR} (hi : i < L) (h : frw l p (f i) q) (g : FP f (L - (i + 1)).toNat l (q + 1) (i + 1) l') : FP f (L - i).toNat l p i l' := by
  rw [show (L - i).toNat = (L - (i + 1)).toNat + 1 by omega]
  exact Or.inl ⟨q, h, g⟩
theorem FP_n {f : Int → Int} {L p i : Int} {l l' : List TR} (hi : i < L) (h : nrw l p (f i)) (g : FP f (L - (i + 1)).toNat (l ++ [(p, f i, 0)]) 0 (i + 1) l') : FP f (L - i).toNat l p i l' := by
  rw [show (L - i).toNat = (L - (i + 1)).toNat + 1 by omega]
  exact Or.inr ⟨h, g⟩
theorem FP_e {f : Int → Int} {L p i : Int} {l : List TR} (hi : i = L) : FP f (L - i).toNat l p i (if p = 0 then l else l ++ [(p, -1, 0)]) := by
  rw [show (L - i).toNat = 0 by omega]
  rfl
section SQ1B
variable {M M2 : JM} {n t w L : Int} {f : Int → Int} {T : ATx} {K : AKp} {P : ATx} {D : ADt}
theorem Qof.txf {N : JM} (o : Qof X M N) (C : CB X n M T K P D) (A : AI T K P D) (ht : 0 ≤ t ∧ t < T.1) : WSt X N ∧ Txf N (X + (4 + 2 * t)) (T.2.1 t) (T.2.2 t) := by
  have a2 := A.1.2.1
  obtain ⟨-, e1, e2, e3, e4, e5, e6, e7, e8⟩ := c_txt C A ht
  refine ⟨C.1.keepC fun k a j q => o k a j (by unfold fpS at q; omega) (by unfold fpS at q; omega) (by unfold fpS at q; omega), ?_⟩
  unfold Txf
  rw [o 1000 _ _ (by omega) (by omega) (by omega), e2, o 0 _ _ (by omega) (by omega) (by omega), o 2901 _ _ (by omega) (by omega) (by omega), o 0 _ _ (by omega) (by omega) (by omega), o 1 _ _ (by omega) (by omega) (by omega), e6]
  exact ⟨e4, e1, ⟨e7, e8⟩, e5, e8, fun i i0 i1 => by rw [o 2 _ _ (by omega) (by omega) (by omega)]; exact e3 i i0 i1⟩
set_option maxHeartbeats 1000000 in
theorem c_copies {Q : Int → JM → Prop} (C : CB X n M T K P D) (A : AI T K P D) (ht : 0 ≤ t ∧ t < T.1) (hL : L = T.2.1 t) (hf : f = T.2.2 t) (o0 : Qof X M M2) (w0 : M2 2603 (X + 199) 0 = w) (t0 : TdL M2 (X + 200) (X + 201) 3 240 []) (h : ∀ l N, Qof X M N → N 2603 (X + 199) 0 = w → TdL N (X + 200) (X + 201) 3 240 l → Sq0 L f l 0 → Q 0 N) : Runs G 42 0 0 [(1, X + 199), (1, X + (4 + 2 * t))] M2 Q := by
  have u := A.1.2.2 t ht.1 ht.2
  have tf : ∀ N, Qof X M N → WSt X N ∧ Txf N (X + (4 + 2 * t)) L f := fun N o => by rw [hL, hf]; exact o.txf C A ht
  obtain ⟨u1, u2, -⟩ := u
  rw [← hL] at u1 u2
  refine lp_X6_pressByCopies (fun v0 v1 v2 N => X + 199 = v0 ∧ X + (4 + 2 * t) = v1 ∧ 0 ≤ v2 ∧ v2 ≤ L ∧ Qof X M N ∧ N 2603 (X + 199) 0 = w ∧ ∃ l, TdL N (X + 200) (X + 201) 3 240 l ∧ (l.length : Int) ≤ v2 ∧ ∀ l2, Sq0 L f l2 v2 → Sq0 L f (l ++ l2) 0) (fun _ _ v2 => ((1000 - v2) * 1000).toNat) (fun v0 v1 v2 v3 v4 v5 N => X + 199 = v0 ∧ X + (4 + 2 * t) = v1 ∧ 0 ≤ v2 ∧ v2 < L ∧ 0 ≤ v5 ∧ v5 ≤ v2 ∧ Qof X M N ∧ N 2603 (X + 199) 0 = w ∧ (∃ l, TdL N (X + 200) (X + 201) 3 240 l ∧ (l.length : Int) ≤ v2 ∧ ∀ l2, Sq0 L f l2 v2 → Sq0 L f (l ++ l2) 0) ∧ ((v4 = -1 ∧ v3 = 1 ∧ ∀ y, 0 ≤ y → y < v5 → lcp2 L f L f v2 y ≤ 1) ∨ (2 ≤ v3 ∧ 0 ≤ v4 ∧ v4 < v5 ∧ lcp2 L f L f v2 v4 = v3 ∧ ∀ y, 0 ≤ y → y < v5 → lcp2 L f L f v2 y ≤ v3 ∧ (y < v4 → lcp2 L f L f v2 y < v3)))) (fun _ _ v2 _ _ v5 => ((1000 - v2) * 1000 - 1 - v5).toNat) ?_ ?_ _ _ M2 ⟨rfl, rfl, by omega, by omega, o0, w0, [], t0, by show ((0 : Nat) : Int) ≤ 0; omega, fun l2 q => q⟩
  · rintro v0 v1 v2 N ⟨rfl, rfl, i1, i2, i3, i4, l, i5, i6, i7⟩
    obtain ⟨WN, A1, A2, A3, A4, A5, A6⟩ := tf N i3
    rw [A2]
    refine ⟨A1, fun q => ?_, fun q => ⟨⟨rfl, rfl, i1, by omega, by omega, by omega, i3, i4, ⟨l, i5, i6, i7⟩, Or.inl ⟨rfl, rfl, fun y y0 y1 => by omega⟩⟩, by omega⟩⟩
    have e := i7 [] (show v2 = L by omega)
    rw [List.append_nil] at e
    exact h l N i3 i4 i5 e
  · rintro v0 v1 v2 v3 v4 v5 N ⟨rfl, rfl, i1, i2, i3, i4, i5, i6, ⟨l, i7, i8, i9⟩, i10⟩
    obtain ⟨WN, TN⟩ := tf N i5
    obtain ⟨A1, A2, A3, A4, A5, A6⟩ := id TN
    rw [w_squeezer_700 WN, A6 v2 i1 i2]
    have r3 : 1 ≤ v3 ∧ v2 + v3 ≤ L := by
      rcases i10 with z | z
      · omega
      · have := @lcp2_r L L v2 v4 f f (by omega) (by omega)
        omega
    refine ⟨fun q => ⟨fun q2 => ⟨w_squeezer_t WN, w_qitems_t WN, c_add i7 (by omega) (fun M3 o3 t3 _ => ⟨by unfold jR; omega, ⟨rfl, rfl, by omega, by omega, i5.tof o3, by rw [o3 _ _ _ (by omega) (by omega)]; exact i6, _, t3, by rw [len_app1]; omega, fun l2 g => ?_⟩, by omega⟩)⟩, fun q2 => ⟨w_squeezer_t WN, A1, ⟨A4, i1, by omega⟩, w_qitems_t WN, c_add i7 (by omega) (fun M3 o3 t3 _ => ⟨by unfold jR; omega, ⟨rfl, rfl, by omega, by omega, i5.tof o3, by rw [o3 _ _ _ (by omega) (by omega)]; exact i6, _, t3, by rw [len_app1]; omega, fun l2 g => ?_⟩, by omega⟩)⟩⟩, fun q => c_same TN i3 (by omega) (by omega) (fun _ => ⟨fun q2 => ⟨by unfold jR; omega, ⟨rfl, rfl, i1, i2, by omega, by omega, i5, i6, ⟨l, i7, i8, i9⟩, ?_⟩, by omega⟩, fun q2 => ⟨by unfold jR; omega, ⟨rfl, rfl, i1, i2, by omega, by omega, i5, i6, ⟨l, i7, i8, i9⟩, ?_⟩, by omega⟩⟩)⟩
    · rw [List.append_assoc]
      have hv : v5 = v2 := by omega
      subst hv
      rcases i10 with z | z
      · omega
      · exact i9 _ ⟨i2, Or.inr ⟨v4, v3, rfl, ⟨z.1, z.2.1, z.2.2.1, z.2.2.2.1, z.2.2.2.2⟩, g⟩⟩
    · rw [List.append_assoc]
      have hv : v5 = v2 := by omega
      subst hv
      rcases i10 with z | z
      · rw [z.2.1] at g
        exact i9 _ ⟨i2, Or.inl ⟨rfl, z.2.2, g⟩⟩
      · omega
    · rcases i10 with z | z
      · refine Or.inl ⟨z.1, z.2.1, fun y y0 y1 => ?_⟩
        by_cases hy : y = v5
        · rw [hy]; omega
        · exact z.2.2 y y0 (by omega)
      · refine Or.inr ⟨z.1, z.2.1, by omega, z.2.2.2.1, fun y y0 y1 => ?_⟩
        by_cases hy : y = v5
        · rw [hy]; omega
        · exact z.2.2.2.2 y y0 (by omega)
    · refine Or.inr ⟨by omega, i3, by omega, rfl, fun y y0 y1 => ?_⟩
      by_cases hy : y = v5
      · rw [hy]; omega
      · rcases i10 with z | z
        · have := z.2.2 y y0 (by omega); omega
        · have := (z.2.2.2.2 y y0 (by omega)).1; omega
set_option maxHeartbeats 1000000 in
theorem c_phrases {Q : Int → JM → Prop} (C : CB X n M T K P D) (A : AI T K P D) (ht : 0 ≤ t ∧ t < T.1) (hL : L = T.2.1 t) (hf : f = T.2.2 t) (o0 : Qof X M M2) (w0 : M2 2603 (X + 199) 0 = w) (t0 : TdL M2 (X + 200) (X + 201) 3 240 []) (h : ∀ l N, Qof X M N → N 2603 (X + 199) 0 = w → TdL N (X + 200) (X + 201) 3 240 l → FP f L.toNat [] 0 0 l → Ex1 l → Q 0 N) : Runs G 44 0 0 [(1, X + 199), (1, X + (4 + 2 * t))] M2 Q := by
  have u := A.1.2.2 t ht.1 ht.2
  have tf : ∀ N, Qof X M N → WSt X N ∧ Txf N (X + (4 + 2 * t)) L f := fun N o => by rw [hL, hf]; exact o.txf C A ht
  obtain ⟨u1, u2, u3⟩ := u
  rw [← hL] at u1 u2
  rw [← hL, ← hf] at u3
  refine lp_X6_pressByPhrases (fun v0 v1 v2 v3 v4 N => X + 199 = v0 ∧ X + (4 + 2 * t) = v1 ∧ 0 ≤ v4 ∧ v4 ≤ L ∧ Qof X M N ∧ N 2603 (X + 199) 0 = w ∧ (v3 = 0 ↔ v2 = 0) ∧ ∃ l, TdL N (X + 200) (X + 201) 3 240 l ∧ PS l v2 v4 ∧ ∀ l2, FP f (L - v4).toNat l v2 v4 l2 → FP f L.toNat [] 0 0 l2) (fun _ _ _ _ v4 => (1000 - v4).toNat) ?_ _ _ M2 ⟨rfl, rfl, by omega, by omega, o0, w0, Iff.rfl, [], t0, PS_0, fun l2 q => by rw [show L - 0 = L by omega] at q; exact q⟩
  rintro v0 v1 v2 v3 v4 N ⟨rfl, rfl, i1, i2, i3, i4, i5, l, i6, i7, i8⟩
  obtain ⟨WN, TN⟩ := tf N i3
  obtain ⟨A1, A2, A3, A4, A5, A6⟩ := id TN
  have pl := i7.2.2.2
  rw [A2, w_squeezer_700 WN]
  refine ⟨A1, fun q => ⟨fun q2 => ?_, fun q2 => ⟨w_squeezer_t WN, w_qitems_t WN, c_add i6 (by have := pl.2 (fun z => q2 (i5.mpr z)); omega) (fun M3 o3 t3 _ => ?_)⟩⟩, fun q => ?_⟩
  · have e := @FP_e f L v2 v4 l (by omega)
    have ex := PS_end i7 (by omega) _ rfl
    rw [if_pos (i5.mp q2)] at e ex
    exact h l N i3 i4 i6 (i8 _ e) ex
  · have e := @FP_e f L v2 v4 l (by omega)
    have ex := PS_end i7 (by omega) _ rfl
    rw [if_neg (fun z => q2 (i5.mpr z))] at e ex
    exact h _ M3 (i3.tof o3) (by rw [o3 _ _ _ (by omega) (by omega)]; exact i4) t3 (i8 _ e) ex
  · rw [A6 v4 i1 (by omega)]
    have hu := u3 v4 i1 (by omega)
    refine ⟨w_squeezer_t WN, A1, ⟨A4, i1, by omega⟩, w_qitems_t WN, c_rowOf i6 (by omega) (fun k k0 k1 g1 g2 g3 _ => ⟨by have := i6.2.2.1.2; unfold jR; omega, fun q2 => absurd q2 (by omega), fun _ => ⟨fun q3 => absurd q3 (by decide), fun _ => ⟨by unfold jR; omega, ⟨rfl, rfl, by omega, by omega, i3, i4, ⟨fun z => absurd z (by decide), fun z => by omega⟩, l, i6, PS_found i7 ⟨k0, k1, g1, g2, g3⟩, fun l2 g => i8 _ (FP_f (by omega) ⟨k0, k1, g1, g2, g3⟩ g)⟩, by omega⟩⟩⟩) (fun g0 _ => ⟨by unfold jR; omega, fun _ => ⟨fun _ => ?_, fun q3 => absurd rfl q3⟩, fun q2 => absurd (by decide) q2⟩)⟩
    rw [w_squeezer_700 WN, A6 v4 i1 (by omega)]
    exact ⟨w_squeezer_t WN, A1, ⟨A4, i1, by omega⟩, w_qitems_t WN, c_add i6 (by omega) (fun M3 o3 t3 _ => ⟨by unfold jR; omega, ⟨rfl, rfl, by omega, by omega, i3.tof o3, by rw [o3 _ _ _ (by omega) (by omega)]; exact i4, Iff.rfl, _, t3, PS_new i7 hu, fun l2 g => i8 _ (FP_n (by omega) g0 g)⟩, by omega⟩)⟩
end SQ1B
section SQ1C
variable {M M2 : JM} {t w L : Int} {f : Int → Int} {T : ATx} {K : AKp} {P : ATx} {D : ADt}
theorem Rqx.txf {N : JM} (o : Rqx X M N) (R : RI X M T K P D) (A : AI T K P D) (ht : 0 ≤ t ∧ t < T.1) : WSt X N ∧ RT X N T ∧ N 2 (X + 219) t = T.2.1 t := by
  have e := (r_txt R A ht).1
  exact ⟨R.1.keep fun k a j _ _ hk => o k a j (by omega) (by omega), R.2.1.keepX fun k a j q => o k a j (by omega) (by omega), by rw [o _ _ _ (by omega) (by omega)]; exact e⟩
set_option maxHeartbeats 1000000 in
theorem r_copies {Q : Int → JM → Prop} (R : RI X M T K P D) (A : AI T K P D) (ht : 0 ≤ t ∧ t < T.1) (hL : L = T.2.1 t) (hf : f = T.2.2 t) (o0 : Rqx X M M2) (w0 : M2 3243 (X + 218) 0 = w) (t0 : RD3 X M2 3242 251 252 253 []) (h : ∀ l N, Rqx X M N → N 3243 (X + 218) 0 = w → RD3 X N 3242 251 252 253 l → Sq0 L f l 0 → Q 0 N) : Runs G 252 0 0 [(1, X + 218), (0, t)] M2 Q := by
  have a2 := A.1.2.1
  have tf : ∀ N, Rqx X M N → WSt X N ∧ RT X N T ∧ N 2 (X + 219) t = L := fun N o => by rw [hL]; exact o.txf R A ht
  obtain ⟨u1, u2, -⟩ := A.1.2.2 t ht.1 ht.2
  rw [← hL] at u1 u2
  obtain ⟨W0, R0, -⟩ := tf M2 o0
  refine lp_X12_squeezeCopies (fun v0 v1 v2 N => X + 218 = v0 ∧ t = v1 ∧ 0 ≤ v2 ∧ v2 ≤ L ∧ Rqx X M N ∧ N 3243 (X + 218) 0 = w ∧ (∀ i j, 0 ≤ i → i ≤ L → 0 ≤ j → j ≤ L → N 2 (X + 225) (241 * i + j) = lcp2 L f L f i j) ∧ ∃ l, RD3 X N 3242 251 252 253 l ∧ (l.length : Int) ≤ v2 ∧ ∀ l2, Sq0 L f l2 v2 → Sq0 L f (l ++ l2) 0) (fun _ _ v2 => ((1000 - v2) * 1000).toNat) (fun v0 v1 v2 v3 v4 v5 N => X + 218 = v0 ∧ t = v1 ∧ 0 ≤ v2 ∧ v2 < L ∧ 0 ≤ v5 ∧ v5 ≤ v2 ∧ Rqx X M N ∧ N 3243 (X + 218) 0 = w ∧ (∀ i j, 0 ≤ i → i ≤ L → 0 ≤ j → j ≤ L → N 2 (X + 225) (241 * i + j) = lcp2 L f L f i j) ∧ (∃ l, RD3 X N 3242 251 252 253 l ∧ (l.length : Int) ≤ v2 ∧ ∀ l2, Sq0 L f l2 v2 → Sq0 L f (l ++ l2) 0) ∧ 0 ≤ v3 ∧ (∀ y, 0 ≤ y → y < v5 → lcp2 L f L f v2 y ≤ v3) ∧ (v3 = 0 ∨ (0 ≤ v4 ∧ v4 < v5 ∧ lcp2 L f L f v2 v4 = v3 ∧ ∀ y, 0 ≤ y → y < v4 → lcp2 L f L f v2 y < v3))) (fun _ _ v2 _ _ v5 => ((1000 - v2) * 1000 - 1 - v5).toNat) ?_ ?_ _ _ M2 ⟨w_model_t W0, r_look W0 R0 A.1 ht ht (fun M3 lk lv _ => ⟨rfl, rfl, by omega, by omega, fun k a j h1 h2 => (lk k a j (by omega)).trans (o0 k a j h1 h2), by rw [lk _ _ _ (by omega)]; exact w0, by rw [hL, hf]; exact lv, [], ⟨by rw [lk _ _ _ (by omega)]; exact t0.1, fun k k0 k1 => by have k1 : k < ((0 : Nat) : Int) := k1; omega⟩, by show ((0 : Nat) : Int) ≤ 0; omega, fun l2 q => q⟩)⟩
  · rintro v0 v1 v2 N ⟨rfl, rfl, i1, i2, i3, i4, i5, l, i6, i7, i8⟩
    obtain ⟨WN, RN, e⟩ := tf N i3
    rw [w_model_1301 WN, w_m1301_t WN, w_m1301_n WN, e]
    refine ⟨w_model_t WN, ⟨rfl, ht.1, by omega⟩, fun q => ?_, fun q => ⟨⟨rfl, rfl, i1, by omega, by omega, by omega, i3, i4, i5, ⟨l, i6, i7, i8⟩, by omega, fun y y0 y1 => by omega, Or.inl rfl⟩, by omega⟩⟩
    have e := i8 [] (show v2 = L by omega)
    rw [List.append_nil] at e
    exact h l N i3 i4 i6 e
  · rintro v0 v1 v2 v3 v4 v5 N ⟨rfl, rfl, i1, i2, i3, i4, i5, i6, i7, ⟨l, i8, i9, i10⟩, i11, i12, i13⟩
    obtain ⟨WN, RN, -⟩ := tf N i5
    have wn := w_model_t WN
    have r3 : v2 + v3 ≤ L := by
      rcases i13 with z | z
      · omega
      · have := @lcp2_r L L v2 v4 f f (by omega) (by omega)
        omega
    have tb : ∀ N' : JM, (∀ (k : Nat) (j : Int), (k = 2 ∧ (j = X + 225 ∨ j = X + 254 ∨ j = X + 255)) → ∀ i, N' k j i = N k j i) → ∀ i j, 0 ≤ i → i ≤ L → 0 ≤ j → j ≤ L → N' 2 (X + 225) (241 * i + j) = lcp2 L f L f i j := fun N' g i j i0 i1 j0 j1 => by
      rw [g 2 _ ⟨rfl, Or.inl rfl⟩]; exact i7 i j i0 i1 j0 j1
    refine ⟨fun q => ⟨fun q2 => ⟨wn, r_unit WN RN A.1 ht.1 ht.2 i1 (by rw [← hL]; exact i2) (fun _ => ⟨wn, r_item WN i8 (by omega) (fun M3 o3 w3 k3 t3 _ => ⟨by unfold jR; omega, ⟨rfl, rfl, by omega, by omega, i5.trans o3, by rw [w3]; exact i6, tb M3 k3, _, t3, by rw [len_app1]; omega, fun l2 g => ?_⟩, by omega⟩)⟩)⟩, fun q2 => ⟨wn, r_item WN i8 (by omega) (fun M3 o3 w3 k3 t3 _ => ⟨by unfold jR; omega, ⟨rfl, rfl, by omega, by omega, i5.trans o3, by rw [w3]; exact i6, tb M3 k3, _, t3, by rw [len_app1]; omega, fun l2 g => ?_⟩, by omega⟩)⟩⟩, fun q => ?_⟩
    · rw [List.append_assoc]
      have hv : v5 = v2 := by omega
      subst hv
      rw [← hf]
      exact i10 _ ⟨i2, Or.inl ⟨rfl, fun y y0 y1 => by have := i12 y y0 y1; omega, g⟩⟩
    · rw [List.append_assoc]
      have hv : v5 = v2 := by omega
      subst hv
      rcases i13 with z | z
      · omega
      · exact i10 _ ⟨i2, Or.inr ⟨v4, v3, rfl, ⟨by omega, z.1, z.2.1, z.2.2.1, fun y y0 y1 => ⟨i12 y y0 y1, fun c => z.2.2.2 y y0 c⟩⟩, g⟩⟩
    · rw [w_model_1308 WN, w_m1308_t WN, w_m1308_n WN, i7 v2 v5 i1 (by omega) i3 (by omega)]
      have b := (@lcp2_r L L v2 v5 f f (by omega) (by omega)).1
      refine ⟨wn, by unfold jR; omega, by unfold jR; omega, ⟨rfl, by omega, by omega⟩, fun le => ⟨wn, by unfold jR; omega, by unfold jR; omega, ⟨rfl, by omega, by omega⟩, fun le2 => ⟨by unfold jR; omega, ⟨rfl, rfl, i1, i2, by omega, by omega, i5, i6, i7, ⟨l, i8, i9, i10⟩, i11, fun y y0 y1 => ?_, ?_⟩, by omega⟩, fun le2 => absurd le le2⟩, fun le => ⟨wn, by unfold jR; omega, by unfold jR; omega, ⟨rfl, by omega, by omega⟩, fun le2 => absurd le2 le, fun le2 => ⟨wn, by unfold jR; omega, by unfold jR; omega, ⟨rfl, by omega, by omega⟩, by unfold jR; omega, ⟨rfl, rfl, i1, i2, by omega, by omega, i5, i6, i7, ⟨l, i8, i9, i10⟩, b, fun y y0 y1 => ?_, Or.inr ⟨i3, by omega, rfl, fun y y0 y1 => ?_⟩⟩, by omega⟩⟩⟩
      · by_cases hy : y = v5
        · rw [hy]; exact le
        · exact i12 y y0 (by omega)
      · exact i13.imp id fun z => ⟨z.1, by omega, z.2.2⟩
      · by_cases hy : y = v5
        · rw [hy]; exact Int.le_refl _
        · have := i12 y y0 (by omega); omega
      · have := i12 y y0 (by omega); omega
set_option maxHeartbeats 2000000 in
theorem r_phrases {Q : Int → JM → Prop} (R : RI X M T K P D) (A : AI T K P D) (ht : 0 ≤ t ∧ t < T.1) (hL : L = T.2.1 t) (hf : f = T.2.2 t) (o0 : Rqx X M M2) (w0 : M2 3243 (X + 218) 0 = w) (t0 : RD3 X M2 3242 251 252 253 []) (h : ∀ l N, Rqx X M N → N 3243 (X + 218) 0 = w → RD3 X N 3242 251 252 253 l → FP f L.toNat [] 0 0 l → Q 0 N) : Runs G 253 0 0 [(1, X + 218), (0, t)] M2 Q := by
  have a2 := A.1.2.1
  have tf : ∀ N, Rqx X M N → WSt X N ∧ RT X N T ∧ N 2 (X + 219) t = L := fun N o => by rw [hL]; exact o.txf R A ht
  obtain ⟨u1, u2, -⟩ := A.1.2.2 t ht.1 ht.2
  rw [← hL] at u1 u2
  obtain ⟨B, hB⟩ : ∃ B : JM → List TR → Int → Int → Int → Prop, B = fun N l p i (m : Int) => RD3 X N 3242 251 252 253 l ∧ m = l.length + 1 ∧ (∀ k : Int, 0 ≤ k → k < l.length → N 2 (X + 254) (k + 1) = rowx l k 0 ∧ N 2 (X + 255) (k + 1) = rowx l k 1) ∧ (l.length : Int) ≤ i ∧ (p ≠ 0 → (l.length : Int) < i) ∧ ∀ l2, FP f (L - i).toNat l p i l2 → FP f L.toNat [] 0 0 l2 := ⟨_, rfl⟩
  refine lp_X12_squeezePhrases (fun v0 v1 v2 v3 N => X + 218 = v0 ∧ t = v1 ∧ 0 ≤ v3 ∧ v3 ≤ L ∧ Rqx X M N ∧ N 3243 (X + 218) 0 = w ∧ ∃ l, B N l 0 v3 v2 ∨ (v3 = L ∧ RD3 X N 3242 251 252 253 l ∧ FP f L.toNat [] 0 0 l)) (fun _ _ _ v3 => if v3 = L then 0 else ((1000 - v3) * 1000000).toNat) (fun v0 v1 v2 v3 v4 v5 N => X + 218 = v0 ∧ t = v1 ∧ 0 ≤ v3 ∧ v3 ≤ L ∧ Rqx X M N ∧ N 3243 (X + 218) 0 = w ∧ (v3 = L → v5 = 1 ∧ v4 ≠ 0) ∧ ∃ l, B N l v4 v3 v2 ∧ (v5 = 0 → nrw l v4 (f v3))) (fun _ _ _ v3 _ v5 => ((1000 - v3) * 1000000 - 500 + 1 + 400 * (if v5 = 0 then 0 else 1)).toNat) (fun v0 v1 v2 v3 v4 v6 N => X + 218 = v0 ∧ t = v1 ∧ 0 ≤ v3 ∧ v3 < L ∧ Rqx X M N ∧ N 3243 (X + 218) 0 = w ∧ 1 ≤ v6 ∧ v6 ≤ v2 ∧ ∃ l, B N l v4 v3 v2 ∧ ∀ j : Int, 0 ≤ j → j < v6 - 1 → ¬ (rowx l j 0 = v4 ∧ rowx l j 1 = f v3)) (fun _ _ _ v3 _ v6 => ((1000 - v3) * 1000000 - 500 + 300 - v6).toNat) ?_ ?_ ?_ _ _ M2 ⟨rfl, rfl, by omega, by omega, o0, w0, [], Or.inl ?_⟩
  · rintro v0 v1 v2 v3 N ⟨rfl, rfl, i1, i2, i3, i4, l, i5⟩
    obtain ⟨WN, RN, e⟩ := tf N i3
    rw [w_model_1301 WN, w_m1301_t WN, w_m1301_n WN, e]
    refine ⟨w_model_t WN, ⟨rfl, ht.1, by omega⟩, fun q => ?_, fun q => ⟨⟨rfl, rfl, i1, i2, i3, i4, fun z => absurd z (by omega), l, i5.resolve_right (fun z => by omega), fun z => absurd z (by decide)⟩, ?_⟩⟩
    · rcases i5 with z | z
      · rw [hB] at z
        have e := @FP_e f L 0 v3 l (by omega)
        rw [if_pos rfl] at e
        exact h l N i3 i4 z.1 (z.2.2.2.2.2 _ e)
      · exact h l N i3 i4 z.2.1 z.2.2
    · rw [if_neg (show ¬ v3 = L by omega), if_neg (by decide)]
      omega
  · rintro v0 v1 v2 v3 v4 v5 N ⟨rfl, rfl, i1, i2, i3, i4, i5, l, i6, i7⟩
    obtain ⟨WN, RN, e⟩ := tf N i3
    have wn := w_model_t WN
    have i6' := i6
    rw [hB] at i6'
    obtain ⟨b1, b2, b3, b4, b5, b6⟩ := i6'
    have fin : L ≤ v3 → Runs G 251 0 0 [(1, X + 218), (0, v4), (0, -1), (0, 0)] N (fun _ M1 => jokM M1 → (X + 218 = X + 218 ∧ t = t ∧ 0 ≤ v3 ∧ v3 ≤ L ∧ Rqx X M M1 ∧ M1 3243 (X + 218) 0 = w ∧ ∃ l, B M1 l 0 v3 v2 ∨ (v3 = L ∧ RD3 X M1 3242 251 252 253 l ∧ FP f L.toNat [] 0 0 l)) ∧ (if v3 = L then 0 else ((1000 - v3) * 1000000).toNat) < ((1000 - v3) * 1000000 - 500 + 1 + 400 * (if v5 = 0 then 0 else 1)).toNat) := fun q => by
      have z := i5 (by omega)
      have := b5 z.2
      have e := @FP_e f L v4 v3 l (by omega)
      rw [if_neg z.2] at e
      refine r_item WN b1 (by omega) (fun M3 o3 w3 k3 t3 _ => ⟨⟨rfl, rfl, i1, i2, i3.trans o3, by rw [w3]; exact i4, _, Or.inr ⟨by omega, t3, b6 _ e⟩⟩, ?_⟩)
      rw [if_pos (by omega), z.1, if_neg (by decide)]
      omega
    have big : v5 = 0 → Runs G 174 0 0 [(1, X + 218), (0, t), (0, v3)] N (fun r2 M2 => jokM M2 → M2 0 (X + 218) 0 = 22 ∧ Runs G 251 0 0 [(1, X + 218), (0, v4), (0, r2), (0, 0)] M2 (fun _ M3 => jokM M3 → M3 0 (X + 218) 0 = 22 ∧ (M3 0 (M3 1347 (X + 218) 0) 0 = 1 ∧ (0 : Int) ≤ v2 ∧ v2 < M3 1 (M3 1347 (X + 218) 0) 0) ∧ M3 0 (X + 218) 0 = 22 ∧ M3 0 (X + 218) 0 = 22 ∧ Runs G 174 0 0 [(1, X + 218), (0, t), (0, v3)] (jset M3 2 (M3 1347 (X + 218) 0) v2 v4) (fun r4 M4 => jokM M4 → (M4 0 (M3 1348 (X + 218) 0) 0 = 1 ∧ (0 : Int) ≤ v2 ∧ v2 < M4 1 (M3 1348 (X + 218) 0) 0) ∧ jR (v2 + 1) ∧ jR (v3 + 1) ∧ (X + 218 = X + 218 ∧ t = t ∧ 0 ≤ v3 + 1 ∧ v3 + 1 ≤ L ∧ Rqx X M (jset M4 2 (M3 1348 (X + 218) 0) v2 r4) ∧ (jset M4 2 (M3 1348 (X + 218) 0) v2 r4) 3243 (X + 218) 0 = w ∧ ∃ l, B (jset M4 2 (M3 1348 (X + 218) 0) v2 r4) l 0 (v3 + 1) (v2 + 1) ∨ (v3 + 1 = L ∧ RD3 X (jset M4 2 (M3 1348 (X + 218) 0) v2 r4) 3242 251 252 253 l ∧ FP f L.toNat [] 0 0 l)) ∧ (if v3 + 1 = L then 0 else ((1000 - (v3 + 1)) * 1000000).toNat) < ((1000 - v3) * 1000000 - 500 + 1 + 400 * (if v5 = 0 then 0 else 1)).toNat))) := fun z => by
      have lt : v3 < L := by
        rcases Int.lt_or_le v3 L with c | c
        · exact c
        · have := (i5 (by omega)).1; omega
      refine r_unit WN RN A.1 ht.1 ht.2 i1 (by rw [← hL]; exact lt) (fun _ => ⟨wn, r_item WN b1 (by omega) (fun M3 o3 w3 k3 t3 _ => ?_)⟩)
      obtain ⟨W3, R3, -⟩ := tf M3 (i3.trans o3)
      rw [w_model_1347 W3, w_m1347_t W3, w_m1347_n W3, w_model_1348 W3]
      have o4 : Rqx X M (jset M3 2 (X + 254) v2 v4) := (i3.trans o3).trans (fun k a j h1 h2 => if_neg (by omega))
      obtain ⟨W4, R4, -⟩ := tf _ o4
      refine ⟨w_model_t W3, ⟨rfl, by omega, by omega⟩, w_model_t W3, w_model_t W3, r_unit W4 R4 A.1 ht.1 ht.2 i1 (by rw [← hL]; exact lt) (fun _ => ?_)⟩
      rw [w_m1348_t W4, w_m1348_n W4, ← hf]
      refine ⟨⟨rfl, by omega, by omega⟩, by unfold jR; omega, by unfold jR; omega, ⟨rfl, rfl, by omega, by omega, o4.trans (fun k a j h1 h2 => if_neg (by omega)), ?_, l ++ [(v4, f v3, 0)], Or.inl ?_⟩, ?_⟩
      · rw [jset_k (by decide), jset_k (by decide), w3]; exact i4
      · rw [hB]
        rw [← hf] at t3
        have la := @len_app1 l (v4, f v3, 0)
        refine ⟨⟨by rw [jset_k (by decide), jset_k (by decide)]; exact t3.1, fun k k0 k1 => ?_⟩, by omega, fun k k0 k1 => ?_, by omega, fun c => absurd rfl c, fun l2 g => b6 _ (FP_n lt (i7 z) g)⟩
        · rw [jset_a (by omega), jset_a (by omega), jset_a (by omega), jset_a (by omega), jset_a (by omega), jset_a (by omega)]
          exact t3.2 k k0 k1
        · by_cases hk : k = l.length
          · rw [hk, rowx_last, rowx_last, ← b2, jset_s, jset_a (by omega), jset_s]
            exact ⟨rfl, rfl⟩
          · rw [rowx_app k0 (by omega), rowx_app k0 (by omega), jset_a (by omega), jset_j (by omega), jset_j (by omega), jset_a (by omega), k3 2 _ ⟨rfl, Or.inr (Or.inl rfl)⟩, k3 2 _ ⟨rfl, Or.inr (Or.inr rfl)⟩]
            exact b3 k k0 (by omega)
      · rw [if_pos z]
        by_cases c : v3 + 1 = L
        · rw [if_pos c]; omega
        · rw [if_neg c]; omega
    rw [w_model_1301 WN, w_m1301_t WN, w_m1301_n WN, e]
    refine ⟨fun z => ⟨wn, ⟨rfl, ht.1, by omega⟩, fun q => ⟨wn, fin q⟩, fun q => ⟨wn, big z⟩⟩, fun z => ⟨wn, ⟨rfl, ht.1, by omega⟩, fun q => ⟨wn, ⟨rfl, ht.1, by omega⟩, fun _ => ⟨wn, fin q⟩, fun q2 => absurd q q2⟩, fun q => ⟨⟨rfl, rfl, i1, by omega, i3, i4, by omega, by omega, l, i6, fun j j0 j1 => by omega⟩, ?_⟩⟩⟩
    rw [if_neg z]
    omega
  · rintro v0 v1 v2 v3 v4 v6 N ⟨rfl, rfl, i1, i2, i3, i4, i5, i6, l, i7, i8⟩
    obtain ⟨WN, RN, e⟩ := tf N i3
    have wn := w_model_t WN
    have i7' := i7
    rw [hB] at i7'
    obtain ⟨b1, b2, b3, b4, b5, b6⟩ := i7'
    rw [w_model_1347 WN, w_m1347_t WN, w_m1347_n WN, w_model_1348 WN, w_m1348_t WN, w_m1348_n WN]
    refine ⟨fun q => ⟨fun _ => ⟨fun _ => ⟨fun _ => ⟨by unfold jR; omega, ⟨rfl, rfl, by omega, by omega, i3, i4, fun z => by omega, l, ?_, fun _ j j0 j1 => ?_⟩, ?_⟩, fun z => absurd rfl z⟩, fun z => absurd rfl z⟩, fun z => absurd q z⟩, fun q => ?_⟩
    · rw [show v3 + 0 = v3 by omega]; exact i7
    · rw [show v3 + 0 = v3 by omega]; exact i8 j j0 (by omega)
    · rw [if_pos rfl]; omega
    · have tb := b3 (v6 - 1) (by omega) (by omega)
      rw [show v6 - 1 + 1 = v6 by omega] at tb
      rw [tb.1, tb.2]
      have nxt : ¬ (rowx l (v6 - 1) 0 = v4 ∧ rowx l (v6 - 1) 1 = f v3) → jR (v6 + 1) ∧ (X + 218 = X + 218 ∧ t = t ∧ 0 ≤ v3 ∧ v3 < L ∧ Rqx X M N ∧ N 3243 (X + 218) 0 = w ∧ 1 ≤ v6 + 1 ∧ v6 + 1 ≤ v2 ∧ ∃ l, B N l v4 v3 v2 ∧ ∀ j : Int, 0 ≤ j → j < v6 + 1 - 1 → ¬ (rowx l j 0 = v4 ∧ rowx l j 1 = f v3)) ∧ ((1000 - v3) * 1000000 - 500 + 300 - (v6 + 1)).toNat < ((1000 - v3) * 1000000 - 500 + 300 - v6).toNat := fun c => by
        refine ⟨by unfold jR; omega, ⟨rfl, rfl, i1, i2, i3, i4, by omega, by omega, l, i7, fun j j0 j1 => ?_⟩, by omega⟩
        by_cases hj : j = v6 - 1
        · rw [hj]; exact c
        · exact i8 j j0 (by omega)
      refine ⟨wn, ⟨rfl, by omega, by omega⟩, fun c => nxt (fun z => c z.1), fun c => ⟨wn, ⟨rfl, by omega, by omega⟩, wn, r_unit WN RN A.1 ht.1 ht.2 i1 (by rw [← hL]; exact i2) (fun _ => ⟨fun c2 => ⟨fun z => absurd z q, fun _ => ⟨fun z => absurd z (by decide), fun _ => ⟨fun z => absurd z (by decide), fun _ => ⟨by unfold jR; omega, ⟨rfl, rfl, by omega, by omega, i3, i4, fun _ => ⟨rfl, by omega⟩, l, ?_, fun z => absurd z (by decide)⟩, ?_⟩⟩⟩⟩, fun c2 => nxt (fun z => c2 (by rw [← hf]; exact z.2))⟩)⟩⟩
      · rw [hB]
        rw [← hf] at c2
        refine ⟨b1, b2, b3, by omega, fun _ => by omega, fun l2 g => b6 _ (FP_f (q := v6 - 1) i2 ⟨by omega, by omega, Classical.not_not.mp c, c2, fun j j0 j1 => i8 j j0 j1⟩ ?_)⟩
        rw [show v6 - 1 + 1 = v6 by omega]; exact g
      · rw [if_neg (by decide)]; omega
  · rw [hB]
    exact ⟨t0, rfl, fun k k0 k1 => by have k1 : k < ((0 : Nat) : Int) := k1; omega, by show ((0 : Nat) : Int) ≤ 0; omega, fun z => absurd rfl z, fun l2 q => by rw [show L - 0 = L by omega] at q; exact q⟩
end SQ1C
set_option maxHeartbeats 2000000 in
theorem st_squeeze (t w : Int) : JSt (IV X) 3072 G X 157 254 [(0, t), (0, w)] := mk_stp fun n M T K P D C H A hX hn0 hn => by
  by_cases hv : (0 ≤ t ∧ t < T.1) ∧ 0 ≤ w ∧ w ≤ 1
  · obtain ⟨ht, hw⟩ := hv
    have At := A.1.2.2 t ht.1 ht.2
    obtain ⟨u1, u2, u3⟩ := id At
    have a2 := A.1.2.1
    obtain ⟨L, hL⟩ : ∃ L, L = T.2.1 t := ⟨_, rfl⟩
    obtain ⟨f, hf⟩ : ∃ f, f = T.2.2 t := ⟨_, rfl⟩
    rw [← hL, ← hf] at At
    rw [← hL] at u1 u2
    rw [← hL, ← hf] at u3
    obtain ⟨Sp, hSp⟩ : ∃ Sp : List TR → Prop, Sp = fun l => (w = 0 ∧ Sq0 L f l 0) ∨ (w = 1 ∧ FP f L.toNat [] 0 0 l ∧ Ex1 l) := ⟨_, rfl⟩
    have su : ∀ l l', Sp l → Sp l' → l = l' := fun l l' h h' => by
      rw [hSp] at h h'
      rcases h with h | h
      · rcases h' with h' | h'
        · exact Sq0_uniq _ _ _ h.2 h'.2
        · omega
      · rcases h' with h' | h'
        · omega
        · exact FP_uniq _ _ _ _ _ _ h.2.1 h'.2.1
    have ai : ∀ l, Sp l → AI T K P (dsq D l w) := fun l h => by
      refine ⟨A.1, A.2.1, A.2.2.1, ?_, A.2.2.2.2⟩
      rw [hSp] at h
      rcases h with h | h
      · exact Or.inr (Or.inl ⟨h.1, Sq0_ex At l 0 (by omega) u1 h.2⟩)
      · exact Or.inr (Or.inr ⟨h.1, h.2.2⟩)
    refine ⟨fun r T' K' P' D' => ∃ l, Sp l ∧ r = l.length ∧ T' = T ∧ K' = K ∧ P' = P ∧ D' = dsq D l w, fun Q hQ => ?_, ?_⟩
    · have W := C.1
      obtain ⟨M2, hM2⟩ : ∃ M2, M2 = jset M 2603 (X + 199) 0 w := ⟨_, rfl⟩
      have o2 : Qof X M M2 := fun k a j h1 h2 h3 => by rw [hM2]; exact if_neg (fun z => h1 ⟨z.1, z.2.1⟩)
      have w2 : M2 2603 (X + 199) 0 = w := by rw [hM2, jset_s]
      have t2 : TdL M2 (X + 200) (X + 201) 3 240 (D.1 5) := C.2.2.2.2.2.1.2.2.2.2.2.1.keep (fun k => by rw [hM2, jset_a (by omega)]) (fun k j => by rw [hM2, jset_a (by omega)])
      have fin : ∀ l N, Qof X M N → N 2603 (X + 199) 0 = w → TdL N (X + 200) (X + 201) 3 240 l → Sp l → N 0 X 0 = 21 ∧ N 0 (N 1205 X 0) 0 = 16 ∧ N 0 (N 700 (N 1205 X 0) 0) 0 = 20 ∧ Q (N 3003 (N 700 (N 1205 X 0) 0) 0) N := fun l N o wN td sp => by
        have CN := C.q A o td wN
        have WN := CN.1
        rw [wa_1205 WN, w_squeezer_700 WN, td.2.2.1.1]
        exact ⟨wa_t WN, w_squeezer_t WN, w_qitems_t WN, hQ _ N T K P _ ⟨l, sp, rfl, rfl, rfl, rfl, rfl⟩ (ai l sp) (fun k a j h1 h2 => o k a j (by omega) (by omega) (by omega)) (CN.mono (by omega) (by omega)) (H.keep C.2.2.2.2.2.2 fun k a j q => o k a j (by unfold fpH at q; omega) (by unfold fpH at q; omega) (by unfold fpH at q; omega)) (o _ _ _ (by omega) (by omega) (by omega)) (o _ _ _ (by omega) (by omega) (by omega))⟩
      refine rn_X11_squeeze _ _ _ M (sg_X11_squeeze_0 _ _ _ M ?_)
      rw [wa_1200 W]
      refine ⟨wa_t W, w_shelf_t W, c_lkT C A hX ht (fun _ => ⟨fun q => absurd q (by omega), fun _ => ⟨fun q => absurd q (by omega), fun _ => ⟨fun _ => ⟨wa_t W, by rw [wa_1205 W]; exact w_squeezer_t W, ?_⟩, fun q => absurd hw.2 q⟩⟩⟩)⟩
      rw [wa_1205 W]
      refine rn_X6_press _ _ _ M (sg_X6_press_0 _ _ _ M ?_)
      rw [w_squeezer_700 W, ← hM2]
      refine ⟨w_squeezer_t W, w_squeezer_t W, w_qitems_t W, c_clear t2 (fun M3 o3 t3 _ => ?_)⟩
      have o3' := o2.tof o3
      have w3 : M3 2603 (X + 199) 0 = w := by rw [o3 _ _ _ (by omega) (by omega)]; exact w2
      have W3 := (o3'.txf C A ht).1
      rw [w3]
      refine ⟨w_squeezer_t W3, fun q => ⟨w_squeezer_t W3, c_phrases C A ht hL hf o3' w3 t3 (fun l N o4 w4 t4 sp ex _ => fun _ => fin l N o4 w4 t4 (by rw [hSp]; exact Or.inr ⟨by omega, sp, ex⟩))⟩, fun q => ⟨w_squeezer_t W3, c_copies C A ht hL hf o3' w3 t3 (fun l N o4 w4 t4 sp _ => fun _ => fin l N o4 w4 t4 (by rw [hSp]; exact Or.inl ⟨by omega, sp⟩))⟩⟩
    · rintro M1 Q r T' K' P' D' ⟨l, sp, rfl, rfl, rfl, rfl, rfl⟩ R hQ
      have W := R.1
      have wt := w_model_t W
      refine rn_X12_squeeze _ _ _ M1 (sg_X12_squeeze_0 _ _ _ M1 ?_)
      obtain ⟨M2, hM2⟩ : ∃ M2, M2 = jset (jset M1 3242 (X + 218) 0 0) 3243 (X + 218) 0 w := ⟨_, rfl⟩
      have o2 : Rqx X M1 M2 := fun k a j h1 h2 => by
        rw [hM2, show jset (jset M1 3242 (X + 218) 0 0) 3243 (X + 218) 0 w k a j = _ from if_neg (by omega)]
        exact if_neg (by omega)
      have w2 : M2 3243 (X + 218) 0 = w := by rw [hM2, jset_s]
      have t2 : RD3 X M2 3242 251 252 253 [] := ⟨by rw [hM2, jset_k (by decide), jset_s]; rfl, fun k k0 k1 => by have k1 : k < ((0 : Nat) : Int) := k1; omega⟩
      have fin : ∀ l2 N, Rqx X M1 N → N 3243 (X + 218) 0 = w → RD3 X N 3242 251 252 253 l2 → l = l2 → N 0 (X + 218) 0 = 22 ∧ Q (N 3242 (X + 218) 0) N := fun l2 N o wN td e => by
        subst e
        have RN := R.q o td wN
        rw [td.1]
        exact ⟨w_model_t RN.1, hQ N (fun k a j g => o k a j (by omega) (by omega)) RN⟩
      refine ⟨wt, r_isT R A ht (fun _ => ⟨fun q => absurd q (by decide), fun _ => r_in (fun _ _ _ => ⟨fun _ => ⟨wt, wt, fun q => ⟨wt, ?_⟩, fun q => ⟨wt, ?_⟩⟩, fun q => absurd (by decide) q⟩) (fun q => absurd hw q)⟩)⟩
      · rw [← hM2]
        rw [hSp] at sp
        refine r_phrases R A ht hL hf o2 w2 t2 (fun l2 N o3 w3 t3 e _ => fin l2 N o3 w3 t3 ?_)
        rcases sp with z | z
        · exact absurd z.1 q
        · exact FP_uniq _ _ _ _ _ _ z.2.1 e
      · rw [← hM2]
        rw [hSp] at sp
        refine r_copies R A ht hL hf o2 w2 t2 (fun l2 N o3 w3 t3 e _ => fin l2 N o3 w3 t3 ?_)
        rcases sp with z | z
        · exact Sq0_uniq _ _ _ z.2 e
        · exact absurd (by omega) q
  · refine mk_no (r := -2) C H A ⟨hn0, hn⟩ (fun Q hQ => ?_) (fun M1 Q R hQ => ?_)
    · have W := C.1
      refine rn_X11_squeeze _ _ _ M (sg_X11_squeeze_0 _ _ _ M ?_)
      by_cases ht : 0 ≤ t ∧ t < T.1
      · repeat' first | rw [wa_1200 W] | (refine c_lkT C A hX ht ?_) | apply And.intro | intro _ | exact wt | exact wa_t W | exact w_shelf_t W | assumption | exact Or.inl rfl | exact Or.inr rfl | rfl | omega | (unfold jR; omega)
      · repeat' first | rw [wa_1200 W] | (refine c_lkF C A hX ht ?_) | apply And.intro | intro _ | exact wt | exact wa_t W | exact w_shelf_t W | assumption | exact Or.inl rfl | exact Or.inr rfl | rfl | omega | (unfold jR; omega)
    · have W := R.1
      have wt := w_model_t W
      refine rn_X12_squeeze _ _ _ M1 (sg_X12_squeeze_0 _ _ _ M1 ?_)
      by_cases ht : 0 ≤ t ∧ t < T.1
      · repeat' first | rw [wa_1200 W] | (refine r_isT R A ht ?_) | (refine r_in ?_ ?_) | apply And.intro | intro _ | exact wt | exact wa_t W | exact w_shelf_t W | assumption | exact Or.inl rfl | exact Or.inr rfl | rfl | omega | (unfold jR; omega)
      · repeat' first | rw [wa_1200 W] | (refine r_isF R A ht ?_) | apply And.intro | intro _ | exact wt | exact wa_t W | exact w_shelf_t W | assumption | exact Or.inl rfl | exact Or.inr rfl | rfl | omega | (unfold jR; omega)
end SQ1
