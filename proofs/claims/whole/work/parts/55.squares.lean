/-! step: squares -/
theorem smI_tail {g : Int → Int} {a b : Int} (h0 : 0 ≤ a) (h1 : a ≤ b) (hz : ∀ i, a ≤ i → i < b → g i = 0) : smI g b = smI g a := by
  obtain ⟨k, hk⟩ := Int.eq_ofNat_of_zero_le (show 0 ≤ b - a by omega)
  have e : b = a + k := by omega
  subst e
  clear hk h1
  induction k with
  | zero => rw [show a + ((0 : Nat) : Int) = a by omega]
  | succ k ih =>
    rw [show a + ((k + 1 : Nat) : Int) = a + k + 1 by omega, smI_s (by omega), hz _ (by omega) (by omega), ih (fun i i0 i1 => hz i i0 (by omega))]
    omega
theorem smI_0 {n : Int} : smI (fun _ => 0) n = 0 := by
  unfold smI
  rw [sm_const]; omega
theorem smI_swap {g : Int → Int → Int} (a b : Int) : smI (fun i => smI (fun j => g i j) b) a = smI (fun j => smI (fun i => g i j) a) b := by
  have key : ∀ k : Nat, sm (fun i => smI (fun j => g i j) b) k = smI (fun j => sm (fun i => g i j) k) b := fun k => by
    induction k with
    | zero => exact smI_0.symm
    | succ k ih =>
      show sm (fun i => smI (fun j => g i j) b) k + smI (fun j => g k j) b = _
      rw [ih, ← smI_add]
      rfl
  exact key a.toNat
theorem smI_nn {g : Int → Int} {n : Int} (h : ∀ i, 0 ≤ i → i < n → 0 ≤ g i) : 0 ≤ smI g n := by
  have := smI_le (g := fun _ => 0) (h := g) (n := n) h
  rw [smI_0] at this
  exact this
theorem smI_ub {g : Int → Int} {n c : Int} (hn : 0 ≤ n) (h : ∀ i, 0 ≤ i → i < n → g i ≤ c) : smI g n ≤ c * n := by
  have := smI_le (g := g) (h := fun _ => c) (n := n) h
  unfold smI at this ⊢
  rw [sm_const, Int.toNat_of_nonneg hn] at this
  exact this
/-- a square of p and p units stands at i -/
def sq (n : Int) (f : Int → Int) (i p : Int) : Prop := 1 ≤ p ∧ 0 ≤ i ∧ i + 2 * p ≤ n ∧ ∀ k, 0 ≤ k → k < p → f (i + k) = f (i + k + p)
noncomputable def sqs (n : Int) (f : Int → Int) : Int := smI (fun i => smI (fun p => b01 (sq n f i p)) 241) 241
theorem sqb {n i p : Int} {f : Int → Int} (a : Int) (h : a ≤ 241) : 0 ≤ smI (fun p => b01 (sq n f i p)) a ∧ smI (fun p => b01 (sq n f i p)) a ≤ 241 := by
  refine ⟨smI_nn fun _ _ _ => (b01_r _).1, ?_⟩
  by_cases ha : 0 ≤ a
  · have := smI_ub (g := fun p => b01 (sq n f i p)) (c := 1) ha (fun _ _ _ => (b01_r _).2)
    omega
  · rw [smI_z (by omega)]; omega
section SQ
variable {G : JG} {X : Int}
set_option maxHeartbeats 1000000 in
theorem st_squares (t : Int) : JSt (IV X) 3072 G X 139 227 [(0, t)] := mk_sc fun n M T K P D C H A hX => by
  by_cases ht : 0 ≤ t ∧ t < T.1
  · obtain ⟨L, hL⟩ : ∃ L, L = T.2.1 t := ⟨_, rfl⟩
    obtain ⟨f, hf⟩ : ∃ f, f = T.2.2 t := ⟨_, rfl⟩
    obtain ⟨u1, u2, -⟩ := A.1.2.2 t ht.1 ht.2
    rw [← hL] at u1 u2
    obtain ⟨r, hr⟩ : ∃ r, r = sqs L f := ⟨_, rfl⟩
    refine ⟨r, fun Q hQ => ?_, fun M1 Q R hQ => ?_⟩
    · have hQ := hQ M (FrC.refl X M) C H rfl rfl
      have W := C.1
      obtain ⟨TT, e1, e2, e3, e4, e5, e6, e7, e8⟩ := c_txt C A ht
      rw [← hL] at e1 e3
      rw [← hf] at e3
      -- by p, then by i
      have tot : sqs L f = smI (fun p => smI (fun i => b01 (sq L f i p)) 241) 241 := smI_swap 241 241
      have b1 : ∀ a p : Int, a ≤ 241 → 0 ≤ smI (fun i => b01 (sq L f i p)) a ∧ smI (fun i => b01 (sq L f i p)) a ≤ 241 := fun a p ha => by
        refine ⟨smI_nn fun _ _ _ => (b01_r _).1, ?_⟩
        by_cases h0 : 0 ≤ a
        · have := smI_ub (g := fun i => b01 (sq L f i p)) (c := 1) h0 (fun _ _ _ => (b01_r _).2)
          omega
        · rw [smI_z (by omega)]; omega
      have b2 : ∀ a : Int, 0 ≤ a → a ≤ 241 → 0 ≤ smI (fun p => smI (fun i => b01 (sq L f i p)) 241) a ∧ smI (fun p => smI (fun i => b01 (sq L f i p)) 241) a ≤ 241 * a := fun a h0 ha => ⟨smI_nn fun p _ _ => (b1 241 p (by decide)).1, smI_ub h0 (fun p _ _ => (b1 241 p (by decide)).2)⟩
      have main : Runs G 2 0 0 [(1, X + (4 + 2 * t))] M (fun r3 M3 => jokM M3 → Q r3 M3) := by
        refine lp_X0_squaresIn (fun v0 v1 v2 N => M = N ∧ X + (4 + 2 * t) = v0 ∧ 1 ≤ v2 ∧ v2 ≤ 200 ∧ v1 = smI (fun p => smI (fun i => b01 (sq L f i p)) 241) v2) (fun _ _ v2 => ((1000 - v2) * 1000).toNat) (fun v0 v1 v2 v3 v4 N => M = N ∧ X + (4 + 2 * t) = v0 ∧ 1 ≤ v2 ∧ 2 * v2 ≤ L ∧ 0 ≤ v4 ∧ v4 + v2 ≤ L ∧ 0 ≤ v3 ∧ v3 ≤ v4 ∧ (∀ k, v4 - v3 ≤ k → k < v4 → f k = f (k + v2)) ∧ (v3 = v4 ∨ f (v4 - v3 - 1) ≠ f (v4 - v3 - 1 + v2)) ∧ v1 = smI (fun p => smI (fun i => b01 (sq L f i p)) 241) v2 + smI (fun i => b01 (sq L f i v2)) (v4 - v2 + 1)) (fun _ _ v2 _ v4 => ((1000 - v2) * 1000 - 1 - v4).toNat) ?_ ?_ _ M ⟨rfl, rfl, by decide, by decide, ?_⟩
        · rintro v0 v1 v2 N ⟨rfl, rfl, i1, i2, rfl⟩
          have c2 := b2 v2 (by omega) (by omega)
          rw [e1]
          refine ⟨by unfold jR; omega, e4, fun q _ => ?_, fun q => ⟨⟨rfl, rfl, i1, by omega, by omega, by omega, by omega, by omega, fun k k0 k1 => by omega, Or.inl rfl, by rw [smI_z (n := 0 - v2 + 1) (by omega)]; omega⟩, by omega⟩⟩
          rw [hr, tot, smI_tail (a := v2) (by omega) (by omega) (fun p p0 p1 => (smI_c (h := fun _ => 0) (fun i _ _ => b01_f (fun z => by have := z.2.2.1; have := z.2.1; omega))).trans smI_0)] at hQ
          exact hQ
        · rintro v0 v1 v2 v3 v4 N ⟨rfl, rfl, i1, i2, i3, i4, i5, i6, i7, i8, rfl⟩
          have c2 := b2 v2 (by omega) (by omega)
          have c1 := b1 (v4 - v2 + 1) v2 (by omega)
          have c3 := b1 (v4 + 1 - v2 + 1) v2 (by omega)
          rw [e1, e2]
          refine ⟨by unfold jR; omega, e4, fun q => ⟨by unfold jR; omega, ⟨rfl, rfl, by omega, by omega, ?_⟩, by omega⟩, fun q => ?_⟩
          · rw [smI_s (g := fun p => smI (fun i => b01 (sq L f i p)) 241) (n := v2) (by omega)]
            have e := smI_tail (g := fun i => b01 (sq L f i v2)) (a := v4 - v2 + 1) (b := 241) (by omega) (by omega) (fun i i0 i1 => b01_f (fun z => by have := z.2.2.1; omega))
            show _ = smI _ v2 + smI (fun i => b01 (sq L f i v2)) 241
            rw [e]
          · rw [e3 v4 i3 (by omega), e3 (v4 + v2) (by omega) (by omega)]
            -- one more end: is it a square
            have nxt : ∀ x : Int, (sq L f (v4 - v2 + 1) v2 → x = 1) → (¬ sq L f (v4 - v2 + 1) v2 → x = 0) → smI (fun i => b01 (sq L f i v2)) (v4 + 1 - v2 + 1) = smI (fun i => b01 (sq L f i v2)) (v4 - v2 + 1) + x := fun x h1 h2 => by
              by_cases hp : 0 ≤ v4 - v2 + 1
              · rw [show v4 + 1 - v2 + 1 = v4 - v2 + 1 + 1 by omega, smI_s hp]
                rcases Classical.em (sq L f (v4 - v2 + 1) v2) with g | g
                · rw [b01_t g, h1 g]
                · rw [b01_f g, h2 g]
              · rw [smI_z (by omega), smI_z (by omega), h2 (fun z => by have := z.2.1; omega)]; rfl
            refine ⟨e4, ⟨e5, i3, by omega⟩, e4, by unfold jR; omega, ⟨e5, by omega, by omega⟩, fun e => ⟨fun _ => ⟨by unfold jR; omega, ⟨rfl, rfl, i1, i2, by omega, by omega, by omega, by omega, fun k k0 k1 => by omega, Or.inr (by rw [show v4 + 1 - 0 - 1 = v4 by omega]; exact e), ?_⟩, by omega⟩, fun q2 => absurd (by omega) q2⟩, fun e => ?_⟩
            · have := nxt 0 (fun z => absurd (by have := z.2.2.2 (v2 - 1) (by omega) (by omega); rw [show v4 - v2 + 1 + (v2 - 1) = v4 by omega] at this; exact this) e) (fun _ => rfl)
              omega
            · have eq : f v4 = f (v4 + v2) := Classical.not_not.mp e
              have all : ∀ k, v4 + 1 - (v3 + 1) ≤ k → k < v4 + 1 → f k = f (k + v2) := fun k k0 k1 => by
                by_cases hk : k = v4
                · rw [hk]; exact eq
                · exact i7 k (by omega) (by omega)
              have brk : v3 + 1 = v4 + 1 ∨ f (v4 + 1 - (v3 + 1) - 1) ≠ f (v4 + 1 - (v3 + 1) - 1 + v2) := i8.imp (fun z => by omega) (fun z => by rw [show v4 + 1 - (v3 + 1) - 1 = v4 - v3 - 1 by omega]; exact z)
              refine ⟨by unfold jR; omega, fun q2 => ⟨by unfold jR; omega, ⟨rfl, rfl, i1, i2, by omega, by omega, by omega, by omega, all, brk, ?_⟩, by omega⟩, fun q2 => ⟨by unfold jR; omega, by unfold jR; omega, ⟨rfl, rfl, i1, i2, by omega, by omega, by omega, by omega, all, brk, ?_⟩, by omega⟩⟩
              · have := nxt 0 (fun z => by
                  exfalso
                  rcases i8 with w | w
                  · have := z.2.1; omega
                  · have y := z.2.2.2 (v4 - v3 - 1 - (v4 - v2 + 1)) (by omega) (by omega)
                    rw [show v4 - v2 + 1 + (v4 - v3 - 1 - (v4 - v2 + 1)) = v4 - v3 - 1 by omega] at y
                    exact w y) (fun _ => rfl)
                omega
              · have := nxt 1 (fun _ => rfl) (fun z => absurd ⟨i1, by omega, by omega, fun k k0 k1 => all _ (by omega) (by omega)⟩ z)
                omega
        · rw [show (1 : Int) = 0 + 1 from rfl, smI_s (by decide), smI_z (by decide)]
          have z : smI (fun i => b01 (sq L f i 0)) 241 = 0 := (smI_c (h := fun _ => 0) (fun i _ _ => b01_f (fun z => by have := z.1; omega))).trans smI_0
          rw [z]; rfl
      refine rn_X11_squares _ _ M (sg_X11_squares_0 _ _ M ?_)
      repeat' first | rw [wa_1200 W] | (refine c_lkT C A hX ht ?_) | exact main | apply And.intro | intro _ | exact wt | exact wa_t W | exact w_shelf_t W | assumption | exact Or.inl rfl | exact Or.inr rfl | rfl | omega | (unfold jR; omega)
    · have W := R.1
      have wt := w_model_t W
      obtain ⟨z1, z2, z3, z4, z5⟩ := r_txt R A ht
      rw [← hL] at z1
      have b2 : ∀ a : Int, 0 ≤ a → a ≤ 241 → 0 ≤ smI (fun i => smI (fun p => b01 (sq L f i p)) 241) a ∧ smI (fun i => smI (fun p => b01 (sq L f i p)) 241) a ≤ 241 * a := fun a h0 ha => ⟨smI_nn fun p _ _ => (sqb (p := 0) 241 (by decide)).1, smI_ub h0 (fun p _ _ => (sqb (p := 0) 241 (by decide)).2)⟩
      refine lp_X12_squares (fun v0 v1 v2 v3 N => X + 218 = v0 ∧ t = v1 ∧ 0 ≤ v3 ∧ v3 ≤ L ∧ Lk X M1 N ∧ (∀ i j, 0 ≤ i → i ≤ L → 0 ≤ j → j ≤ L → N 2 (X + 225) (241 * i + j) = lcp2 L f L f i j) ∧ v2 = smI (fun i => smI (fun p => b01 (sq L f i p)) 241) v3) (fun _ _ _ v3 => ((1000 - v3) * 1000).toNat) (fun v0 v1 v2 v3 v4 N => X + 218 = v0 ∧ t = v1 ∧ 0 ≤ v3 ∧ v3 < L ∧ 1 ≤ v4 ∧ v4 ≤ 200 ∧ Lk X M1 N ∧ (∀ i j, 0 ≤ i → i ≤ L → 0 ≤ j → j ≤ L → N 2 (X + 225) (241 * i + j) = lcp2 L f L f i j) ∧ v2 = smI (fun i => smI (fun p => b01 (sq L f i p)) 241) v3 + smI (fun p => b01 (sq L f v3 p)) v4) (fun _ _ _ v3 v4 => ((1000 - v3) * 1000 - v4).toNat) ?_ ?_ _ _ M1 ?_
      · rintro v0 v1 v2 v3 N ⟨rfl, rfl, i1, i2, i3, i4, rfl⟩
        have WN := i3.W W
        have zn : N 2 (X + 219) t = L := by rw [i3 _ _ _ (by omega)]; exact z1
        rw [w_model_1301 WN, w_m1301_t WN, w_m1301_n WN, zn]
        refine ⟨w_model_t WN, ⟨rfl, ht.1, z3⟩, fun q => ?_, fun q => ⟨⟨rfl, rfl, i1, by omega, by decide, by decide, i3, i4, ?_⟩, by omega⟩⟩
        · have e : sqs L f = smI (fun i => smI (fun p => b01 (sq L f i p)) 241) v3 := smI_tail i1 (by omega) (fun i i0 i1 => (smI_c (h := fun _ => 0) (fun p _ _ => b01_f (fun z => by have := z.2.2.1; have := z.1; omega))).trans smI_0)
          rw [← e, ← hr]
          exact hQ N i3.FrR (i3.RI R)
        · rw [show (1 : Int) = 0 + 1 from rfl, smI_s (n := 0) (by decide), smI_z (n := 0) (by decide), b01_f (p := sq L f v3 0) (fun z => by have := z.1; omega)]
          omega
      · rintro v0 v1 v2 v3 v4 N ⟨rfl, rfl, i1, i2, i3, i3', i4, i5, rfl⟩
        have WN := i4.W W
        have zn : N 2 (X + 219) t = L := by rw [i4 _ _ _ (by omega)]; exact z1
        have c2 := b2 v3 i1 (by omega)
        have c1 := sqb (n := L) (i := v3) (p := 0) (f := f) v4 (by omega)
        rw [w_model_1301 WN, w_m1301_t WN, w_m1301_n WN, zn]
        refine ⟨by unfold jR; omega, by unfold jR; omega, w_model_t WN, ⟨rfl, ht.1, z3⟩, fun q => ⟨by unfold jR; omega, ⟨rfl, rfl, by omega, by omega, i4, i5, ?_⟩, by omega⟩, fun q => ?_⟩
        · rw [smI_s i1]
          have e := smI_tail (g := fun p => b01 (sq L f v3 p)) (a := v4) (b := 241) (by omega) (by omega) (fun p p0 p1 => b01_f (fun z => by have := z.2.2.1; omega))
          show _ = smI _ v3 + smI (fun p => b01 (sq L f v3 p)) 241
          rw [e]
        · have lv := i5 v3 (v3 + v4) i1 (by omega) (by omega) (by omega)
          rw [show 241 * v3 + (v3 + v4) = 241 * v3 + v3 + v4 by omega] at lv
          rw [w_model_1308 WN, w_m1308_t WN, w_m1308_n WN, lv]
          obtain ⟨l1, l2, l3, l4⟩ := @lcp2_is L L f f v3 (v3 + v4)
          have yes : ¬ lcp2 L f L f v3 (v3 + v4) < v4 → sq L f v3 v4 := fun h => ⟨i3, i1, by omega, fun k k0 k1 => by
            have := l3 k k0 (by omega)
            rw [show v3 + v4 + k = v3 + k + v4 by omega] at this
            exact this⟩
          have no : lcp2 L f L f v3 (v3 + v4) < v4 → ¬ sq L f v3 v4 := fun h z => l4 ⟨by omega, by omega, by
            have := z.2.2.2 _ l1 h
            rw [show v3 + v4 + lcp2 L f L f v3 (v3 + v4) = v3 + lcp2 L f L f v3 (v3 + v4) + v4 by omega]
            exact this⟩
          refine ⟨w_model_t WN, by unfold jR; omega, by unfold jR; omega, by unfold jR; omega, ⟨rfl, by omega, by omega⟩, fun h => ⟨by unfold jR; omega, by unfold jR; omega, ⟨rfl, rfl, i1, i2, by omega, by omega, i4, i5, ?_⟩, by omega⟩, fun h => ⟨by unfold jR; omega, by unfold jR; omega, ⟨rfl, rfl, i1, i2, by omega, by omega, i4, i5, ?_⟩, by omega⟩⟩
          · rw [smI_s (by omega), b01_f (no h)]; omega
          · rw [smI_s (by omega), b01_t (yes h)]; omega
      · refine ⟨wt, r_isT R A ht (fun _ => ⟨fun _ => ⟨wt, r_look R.1 R.2.1 A.1 ht ht (fun M2 lk lv _ => ⟨rfl, rfl, by omega, by omega, lk, ?_, (smI_z (by omega)).symm⟩)⟩, fun q => absurd (by decide) q⟩)⟩
        rw [hL, hf]; exact lv
  · refine ⟨-2, fun Q hQ => ?_, fun M1 Q R hQ => ?_⟩
    · have hQ := hQ M (FrC.refl X M) C H rfl rfl
      have W := C.1
      refine rn_X11_squares _ _ M (sg_X11_squares_0 _ _ M ?_)
      repeat' first | rw [wa_1200 W] | (refine c_lkF C A hX ht ?_) | apply And.intro | intro _ | exact wt | exact wa_t W | exact w_shelf_t W | assumption | exact Or.inl rfl | exact Or.inr rfl | rfl | omega | (unfold jR; omega)
    · have hQ := hQ M1 (FrR.refl X M1) R
      have W := R.1
      have wt := w_model_t W
      refine lp_X12_squares (fun _ _ _ _ _ => False) (fun _ _ _ _ => 0) (fun _ _ _ _ _ _ => False) (fun _ _ _ _ _ => 0) (fun _ _ _ _ _ g => g.elim) (fun _ _ _ _ _ _ g => g.elim) _ _ M1 ?_
      repeat' first | rw [wa_1200 W] | (refine r_isF R A ht ?_) | apply And.intro | intro _ | exact wt | exact wa_t W | exact w_shelf_t W | assumption | exact Or.inl rfl | exact Or.inr rfl | rfl | omega | (unfold jR; omega)
end SQ
