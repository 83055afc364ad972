/-! step: distance -/
/-- only the reference's table has changed -/
def Tb (X : Int) (M M' : JM) : Prop := ∀ (k : Nat) (a j : Int), ¬ (k = 2 ∧ a = X + 245) → M' k a j = M k a j
theorem Tb.refl (X : Int) (M : JM) : Tb X M M := fun _ _ _ _ => rfl
theorem Tb.set {X : Int} {M M' : JM} (h : Tb X M M') (j v : Int) : Tb X M (jset M' 2 (X + 245) j v) := fun k a i q => by
  rw [show jset M' 2 (X + 245) j v k a i = M' k a i from if_neg (fun z => q ⟨z.1, z.2.1⟩)]
  exact h k a i q
theorem Tb.RI {X : Int} {M M' : JM} {T : ATx} {K : AKp} {P : ATx} {D : ADt} (h : Tb X M M') (R : RI X M T K P D) : RI X M' T K P D := R.keep (R.1.keep fun k a j _ _ hk => h k a j (by omega)) fun k a j q => h k a j (by unfold fpR at q; omega)
theorem Tb.FrR {X : Int} {M M' : JM} (h : Tb X M M') : FrR X M M' := fun k a j q => h k a j (by omega)
def Rtb (X : Int) (M : JM) (n m : Int) (F : Int → Int → Int) : Prop := ∀ i j, 0 ≤ i → i ≤ n → 0 ≤ j → j ≤ m → M 2 (X + 245) (241 * i + j) = F i j
/-- what holds of the reference on a walk -/
def Jds (X : Int) (M1 : JM) (n m : Int) (F : Int → Int → Int) (N2 : JM) (l : List TR) : Prop := ∃ N1, Tb X M1 N1 ∧ Rtb X N1 n m F ∧ Rof3 X N1 N2 ∧ RD3 X N2 3235 246 247 248 l
section DIST3
variable {G : JG} {X : Int}
set_option maxHeartbeats 1000000 in
theorem st_distance (t s : Int) : JStA (IV X) 3072 G X 153 247 [(0, t), (0, s)] := mk_big (t := t) (s := s) (fun n M T K P D C A hX hv => by
  refine ⟨-2, fun Q hQ => ?_, fun M1 Q R hQ => ?_⟩
  · have W := C.1
    refine rn_X11_distance _ _ _ M (sg_X11_distance_0 _ _ _ M ?_)
    rw [wa_1200 W]
    by_cases ht : 0 ≤ t ∧ t < T.1
    · have hs : ¬ (0 ≤ s ∧ s < T.1) := fun q => hv ⟨ht, q⟩
      exact ⟨wa_t W, w_shelf_t W, c_lkT C A hX ht (fun _ => by rw [wa_1200 W]; exact ⟨wa_t W, w_shelf_t W, c_lkF C A hX hs (fun _ => ⟨fun _ => hQ, fun _ => ⟨fun _ => hQ, fun q => absurd rfl q⟩⟩)⟩)⟩
    · refine ⟨wa_t W, w_shelf_t W, c_lkF C A hX ht (fun _ => ?_)⟩
      rw [wa_1200 W]
      by_cases hs : 0 ≤ s ∧ s < T.1
      · exact ⟨wa_t W, w_shelf_t W, c_lkT C A hX hs (fun _ => ⟨fun _ => hQ, fun q => absurd rfl q⟩)⟩
      · exact ⟨wa_t W, w_shelf_t W, c_lkF C A hX hs (fun _ => ⟨fun _ => hQ, fun q => absurd rfl q⟩)⟩
  · have wt := w_model_t R.1
    refine lp_X12_distance (fun _ _ _ _ _ _ _ => False) (fun _ _ _ _ _ _ => 0) (fun _ _ _ _ _ _ _ _ => False) (fun _ _ _ _ _ _ _ => 0) (fun _ _ _ _ _ _ _ _ => False) (fun _ _ _ _ _ _ _ => 0) (fun _ _ _ _ _ _ _ _ _ _ => False) (fun _ _ _ _ _ _ _ _ _ => 0) (fun _ _ _ _ _ _ _ _ _ => False) (fun _ _ _ _ _ _ _ _ => 0) (fun _ _ _ _ _ _ _ _ _ => False) (fun _ _ _ _ _ _ _ _ => 0) (fun _ _ _ _ _ _ _ z => z.elim) (fun _ _ _ _ _ _ _ _ z => z.elim) (fun _ _ _ _ _ _ _ _ z => z.elim) (fun _ _ _ _ _ _ _ _ _ _ z => z.elim) (fun _ _ _ _ _ _ _ _ _ z => z.elim) (fun _ _ _ _ _ _ _ _ _ z => z.elim) _ _ _ M1 ?_
    by_cases ht : 0 ≤ t ∧ t < T.1
    · have hs : ¬ (0 ≤ s ∧ s < T.1) := fun q => hv ⟨ht, q⟩
      exact ⟨wt, r_isT R A ht (fun _ => ⟨fun q => absurd q (by decide), fun _ => ⟨wt, r_isF R A hs (fun _ => ⟨fun q => absurd rfl q, fun _ => hQ⟩)⟩⟩)⟩
    · exact ⟨wt, r_isF R A ht (fun _ => ⟨fun _ => hQ, fun q => absurd rfl q⟩)⟩) (fun n M T K P D C H A hX ht hs => by
  obtain ⟨a, ha⟩ : ∃ a, a = T.2.1 t := ⟨_, rfl⟩
  obtain ⟨f, hf⟩ : ∃ f, f = T.2.2 t := ⟨_, rfl⟩
  obtain ⟨m, hm⟩ : ∃ m, m = T.2.1 s := ⟨_, rfl⟩
  obtain ⟨g, hg⟩ : ∃ g, g = T.2.2 s := ⟨_, rfl⟩
  obtain ⟨u1, u2, -⟩ := A.1.2.2 t ht.1 ht.2
  obtain ⟨w1, w2, -⟩ := A.1.2.2 s hs.1 hs.2
  rw [← ha] at u1 u2
  rw [← hm] at w1 w2
  have ini := Wk.init (f := f) (g := g) u1 w1
  obtain ⟨L, hL⟩ : ∃ L, L = wkF a f m g (a + m).toNat 0 0 := ⟨_, rfl⟩
  rw [← hL] at ini
  have ads : ∀ l, AI T K P (dset D 3 l) := fun l => ⟨A.1, A.2.1, A.2.2.1, A.2.2.2.put (by decide) (by decide)⟩
  refine ⟨ds a f m g 0 0, dset D 3 L, ads L, fun c z b Q hd hQ => ?_, fun M1 Q R hQ => ?_⟩
  · have W := C.1
    have et := (c_txt C A ht).2.2.1
    refine rn_X11_distance _ _ _ M (sg_X11_distance_0 _ _ _ M ?_)
    rw [wa_1200 W]
    refine ⟨wa_t W, w_shelf_t W, c_lkT C A hX ht (fun _ => ?_)⟩
    rw [wa_1200 W]
    refine ⟨wa_t W, w_shelf_t W, c_lkT C A hX hs (fun _ => ⟨fun q => absurd q (by omega), fun _ => ⟨fun q => absurd q (by omega), fun _ => ⟨wa_t W, c, z, by omega, by omega, hd _ (fun N fr c1 h1 e1 e2 nb _ => ?_)⟩⟩⟩)⟩
    obtain ⟨sb, S⟩ := c_big c1 e2 nb
    have A1 := c_tf c1 A ht
    have B1 := c_tf c1 A hs
    rw [← ha, ← hf] at A1
    rw [← hm, ← hg] at B1
    have ea : N 1000 (X + (4 + 2 * t)) 0 ≠ b + 1 := by have := (c_txt c1 A ht).2.2.1; have := A.1.2.1; omega
    have eb : N 1000 (X + (4 + 2 * s)) 0 ≠ b + 1 := by have := (c_txt c1 A hs).2.2.1; have := A.1.2.1; omega
    rw [wa_1210 c1.1]
    refine ⟨wa_t c1.1, S.1, ?_⟩
    have base : ∀ N1 N2 l, Zof b N N1 → Tof (X + 214) (X + 215) N1 N2 → TdL N2 (X + 214) (X + 215) 3 240 l → CB X n N2 T K P (dset D 3 l) ∧ BigT N2 b ∧ Txf N2 (X + (4 + 2 * t)) a f ∧ Txf N2 (X + (4 + 2 * s)) m g := fun N1 N2 l o1 o2 td => by
      have q1 := o1.cb c1 A sb
      have q2 := q1.tl A (o2.tl (by omega) (by omega)) (q1.2.2.2.2.2.1.put3 o2 td)
      have A2 := c_tf q2 (ads l) ht
      have B2 := c_tf q2 (ads l) hs
      rw [← ha, ← hf] at A2
      rw [← hm, ← hg] at B2
      exact ⟨q2, (o1.big S).keepN fun k x j x0 x1 => o2 k x j (by omega) (by omega), A2, B2⟩
    refine lp_X7_tellScript (fun v0 v1 v2 v3 v4 v5 v6 N2 => b = v0 ∧ X + (4 + 2 * t) = v1 ∧ X + (4 + 2 * s) = v2 ∧ X + 214 = v3 ∧ ∃ N1 l, Zof b N N1 ∧ Dtb N1 b a m (ds a f m g) ∧ Tof (X + 214) (X + 215) N1 N2 ∧ TdL N2 (X + 214) (X + 215) 3 240 l ∧ Wk a f m g L l v4 v5 ∧ 0 ≤ v6 ∧ v6 ≤ v4 + v5) (fun _ _ _ _ v4 v5 _ => ((a - v4) + (m - v5)).toNat) ?_ _ _ _ _ N ?_
    · rintro v0 v1 v2 v3 v4 v5 v6 N2 ⟨rfl, rfl, rfl, rfl, N1, l, k1, k2, k3, k4, k5, k6, k7⟩
      obtain ⟨c2, S2, A2, B2⟩ := base N1 N2 l k1 k3 k4
      have W2 := c2.1
      obtain ⟨⟨b1, b2, b3, b4⟩, -⟩ := id k5
      have d2 : Dtb N2 b a m (ds a f m g) := fun i j i0 i1 j0 j1 => by rw [k3 _ _ _ (by omega) (by omega)]; exact k2 i j i0 i1 j0 j1
      have td := w_tsteps_t W2
      rw [A2.2.1, B2.2.1]
      by_cases on : v4 < a ∨ v5 < m
      · refine ⟨A2.1, B2.1, by unfold jR; omega, fun q => absurd on (by omega), fun _ => ⟨A2.1, fun q => ?_, fun q => ⟨B2.1, fun q2 => ?_, fun q2 => absurd on (by omega)⟩⟩⟩
        all_goals
          refine c_isSame A2 B2 b1 b3 (fun q1 q2 q3 _ => ⟨fun _ => ⟨fun q => absurd q (by decide), fun _ => ⟨by unfold jR; omega, fun q => absurd q (by decide), fun _ => ⟨by unfold jR; omega, by unfold jR; omega, ⟨rfl, rfl, rfl, rfl, N1, l, k1, k2, k3, k4, k5.same q1 q2 q3, by omega, by omega⟩, by omega⟩⟩⟩, fun q => absurd (by decide) q⟩) (fun ns _ => ⟨fun q => absurd rfl q, fun _ => ⟨S2.1, c_wayOn S2 A2 B2 d2 b1 b2 b3 b4 (fun _ => ?_)⟩⟩)
          have ln := k5.len on ns u2 w2 u1 w1
          rcases k5.step on ns with ⟨e, r1, r2⟩ | ⟨e, r1, r2⟩ | ⟨e, r1, r1', r2⟩
          · rw [e, B2.2.2.2.2.2 v5 b3 r1]
            exact ⟨fun _ => ⟨B2.1, ⟨B2.2.2.2.1, b3, by have := B2.2.2.2.2.1; omega⟩, td, c_add k4 ln (fun N3 o t3 _ => ⟨fun _ => ⟨fun q => absurd q (by decide), fun _ => ⟨by unfold jR; omega, by unfold jR; omega, ⟨rfl, rfl, rfl, rfl, N1, _, k1, k2, k3.trans o, t3, r2, by omega, by omega⟩, by omega⟩⟩, fun q => absurd rfl q⟩)⟩, fun q => absurd (by decide) q⟩
          · rw [e]
            exact ⟨fun q => absurd rfl q, fun _ => ⟨td, c_add k4 ln (fun N3 o t3 _ => ⟨fun q => absurd q (by decide), fun _ => ⟨by unfold jR; omega, fun _ => ⟨by unfold jR; omega, ⟨rfl, rfl, rfl, rfl, N1, _, k1, k2, k3.trans o, t3, r2, by omega, by omega⟩, by omega⟩, fun q => absurd rfl q⟩⟩)⟩⟩
          · rw [e, B2.2.2.2.2.2 v5 b3 r1']
            exact ⟨fun _ => ⟨B2.1, ⟨B2.2.2.2.1, b3, by have := B2.2.2.2.2.1; omega⟩, td, c_add k4 ln (fun N3 o t3 _ => ⟨fun q => absurd q (by decide), fun _ => ⟨by unfold jR; omega, fun q => absurd q (by decide), fun _ => ⟨by unfold jR; omega, by unfold jR; omega, ⟨rfl, rfl, rfl, rfl, N1, _, k1, k2, k3.trans o, t3, r2, by omega, by omega⟩, by omega⟩⟩⟩)⟩, fun q => absurd (by decide) q⟩
      · obtain ⟨e1', e2'⟩ := k5.stop on
        subst e1'
        refine ⟨A2.1, B2.1, by unfold jR; omega, fun _ _ => ?_, fun q => ⟨A2.1, fun q1 => absurd q1 (by omega), fun _ => ⟨B2.1, fun q1 => absurd q1 (by omega), fun _ _ => ?_⟩⟩⟩
        all_goals
          rw [wa_1210 W2, k4.2.2.1.1, e2']
          exact ⟨wa_t W2, td, jends_in (by omega) (by omega) (hQ N2 (fr.trans (fun k x j x0 x1 => by rw [k3 k x j (by omega) (by omega)]; exact k1 k x j (by omega))) c2 ((k1.ch c1 h1 sb e2 hX).tl (k1.cb c1 A sb).2.2.2.2.2.2 (k3.tl (by omega) (by omega))) (by rw [k3 _ _ _ (by omega) (by omega), k1 _ _ _ (by omega)]; exact e1) (by rw [k3 _ _ _ (by omega) (by omega), k1 _ _ _ (by omega)]; exact e2))⟩
    · refine ⟨S.1, c_md S A1 B1 ea eb (fun N1 o1 d1 _ => ?_)⟩
      have q1 := o1.cb c1 A sb
      exact ⟨w_tsteps_t q1.1, c_clear q1.2.2.2.2.2.1.2.2.2.1 (fun N2 o2 t2 _ => ⟨rfl, rfl, rfl, rfl, N1, [], o1, d1, o2, t2, ini, by omega, by omega⟩)⟩
  · have W := R.1
    have wt := w_model_t W
    obtain ⟨z1, -, z3, -, -⟩ := r_txt R A ht
    obtain ⟨y1, -, y3, -, -⟩ := r_txt R A hs
    rw [← ha] at z1
    rw [← hm] at y1
    have base : ∀ N1 N2 l, Tb X M1 N1 → Rof3 X N1 N2 → RD3 X N2 3235 246 247 248 l → RI X N2 T K P (dset D 3 l) := fun N1 N2 l o1 o2 rd => (o1.RI R).tl o2.tl ((o1.RI R).2.2.2.2.put3 o2 rd)
    have jt : ∀ N2 l, Jds X M1 a m (ds a f m g) N2 l → Rtb X N2 a m (ds a f m g) ∧ RI X N2 T K P (dset D 3 l) ∧ FrR X M1 N2 := fun N2 l ⟨N1, o1, o2, o3, o4⟩ => ⟨fun i j i0 i1 j0 j1 => by rw [o3 _ _ _ (by omega) (by omega)]; exact o2 i j i0 i1 j0 j1, base N1 N2 l o1 o3 o4, o1.FrR.trans (FrR.tl o3.tl)⟩
    refine lp_X12_distance
      (fun v0 v1 v2 v3 v4 v5 N => X + 218 = v0 ∧ t = v1 ∧ s = v2 ∧ a = v3 ∧ m = v4 ∧ -1 ≤ v5 ∧ v5 ≤ a ∧ Tb X M1 N ∧ ∀ i j, v5 < i → i ≤ a → 0 ≤ j → j ≤ m → N 2 (X + 245) (241 * i + j) = ds a f m g i j) (fun _ _ _ _ _ v5 => (10000000 + v5 * 1000 + 500).toNat)
      (fun v0 v1 v2 v3 v4 v5 v6 N => X + 218 = v0 ∧ t = v1 ∧ s = v2 ∧ a = v3 ∧ m = v4 ∧ 0 ≤ v5 ∧ v5 ≤ a ∧ -1 ≤ v6 ∧ v6 ≤ m ∧ Tb X M1 N ∧ (∀ i j, v5 < i → i ≤ a → 0 ≤ j → j ≤ m → N 2 (X + 245) (241 * i + j) = ds a f m g i j) ∧ ∀ j, v6 < j → j ≤ m → N 2 (X + 245) (241 * v5 + j) = ds a f m g v5 j) (fun _ _ _ _ _ v5 v6 => (10000000 + v5 * 1000 + v6 + 1).toNat)
      (fun v0 v1 v2 v3 v4 v5 v6 N => X + 218 = v0 ∧ t = v1 ∧ s = v2 ∧ a = v3 ∧ m = v4 ∧ ∃ l, Jds X M1 a m (ds a f m g) N l ∧ Wk a f m g L l v5 v6) (fun _ _ _ _ _ v5 v6 => (((a - v5) + (m - v6)) * 10 + 5).toNat)
      (fun v0 v1 v2 v3 v4 v5 v6 v7 v8 N => X + 218 = v0 ∧ t = v1 ∧ s = v2 ∧ a = v3 ∧ m = v4 ∧ v7 = 241 * v5 + v6 ∧ (v5 < a ∨ v6 < m) ∧ ((v8 = 1 ∧ v5 < a ∧ v6 < m) ∨ (v8 = 0 ∧ ¬ (v5 < a ∧ v6 < m))) ∧ ∃ l, Jds X M1 a m (ds a f m g) N l ∧ Wk a f m g L l v5 v6) (fun _ _ _ _ _ v5 v6 _ _ => (((a - v5) + (m - v6)) * 10 + 4).toNat)
      (fun v0 v1 v2 v3 v4 v5 v6 v9 N => X + 218 = v0 ∧ t = v1 ∧ s = v2 ∧ a = v3 ∧ m = v4 ∧ (v5 < a ∨ v6 < m) ∧ ¬ (v5 < a ∧ v6 < m ∧ f v5 = g v6) ∧ v9 = way a f m g v5 v6 ∧ ∃ l, Jds X M1 a m (ds a f m g) N l ∧ Wk a f m g L l v5 v6) (fun _ _ _ _ _ v5 v6 _ => (((a - v5) + (m - v6)) * 10 + 3).toNat)
      (fun v0 v1 v2 v3 v4 v5 v6 v9 N => X + 218 = v0 ∧ t = v1 ∧ s = v2 ∧ a = v3 ∧ m = v4 ∧ ∃ l, Jds X M1 a m (ds a f m g) N l ∧ ((v9 = 0 ∧ v6 < m ∧ Wk a f m g L l v5 (v6 + 1)) ∨ (v9 = 1 ∧ v5 < a ∧ Wk a f m g L l (v5 + 1) v6) ∨ (v9 = 2 ∧ v5 < a ∧ v6 < m ∧ Wk a f m g L l (v5 + 1) (v6 + 1)))) (fun _ _ _ _ _ v5 v6 _ => (((a - v5) + (m - v6)) * 10 + 2).toNat)
      ?_ ?_ ?_ ?_ ?_ ?_ _ _ _ M1 ?_
    · rintro v0 v1 v2 v3 v4 v5 N ⟨rfl, rfl, rfl, rfl, rfl, k1, k2, k3, k4⟩
      have wn := w_model_t (k3.RI R).1
      refine ⟨fun q => ⟨wn, ⟨rfl, rfl, rfl, rfl, rfl, [], ⟨N, k3, fun i j i0 i1 j0 j1 => k4 i j (by omega) i1 j0 j1, fun k x j q1 q2 => if_neg (fun z => q1 ⟨z.1, z.2.1⟩), jset_s, fun k k0 k1 => by have k1 : k < ((0 : Nat) : Int) := k1; omega⟩, ini⟩, by omega⟩, fun q => ⟨⟨rfl, rfl, rfl, rfl, rfl, by omega, k2, by omega, by omega, k3, k4, fun j j0 j1 => by omega⟩, by omega⟩⟩
    · rintro v0 v1 v2 v3 v4 v5 v6 N ⟨rfl, rfl, rfl, rfl, rfl, k1, k2, k2', k2'', k3, k4, k5⟩
      have RN := k3.RI R
      have WN := RN.1
      have wn := w_model_t WN
      rw [w_model_1334 WN]
      have fin : ∀ v, v = ds a f m g v5 v6 → 0 ≤ v6 → (X + 218 = X + 218 ∧ t = t ∧ s = s ∧ a = a ∧ m = m ∧ 0 ≤ v5 ∧ v5 ≤ a ∧ -1 ≤ v6 + -1 ∧ v6 + -1 ≤ m ∧ Tb X M1 (jset N 2 (X + 245) (241 * v5 + v6) v) ∧ (∀ i j, v5 < i → i ≤ a → 0 ≤ j → j ≤ m → jset N 2 (X + 245) (241 * v5 + v6) v 2 (X + 245) (241 * i + j) = ds a f m g i j) ∧ ∀ j, v6 + -1 < j → j ≤ m → jset N 2 (X + 245) (241 * v5 + v6) v 2 (X + 245) (241 * v5 + j) = ds a f m g v5 j) := fun v hv h0 => by
        refine ⟨rfl, rfl, rfl, rfl, rfl, k1, k2, by omega, by omega, k3.set _ _, fun i j i0 i1 j0 j1 => ?_, fun j j0 j1 => ?_⟩
        · rw [jset_j (by omega)]; exact k4 i j i0 i1 j0 j1
        · by_cases hj : j = v6
          · rw [hj, jset_s]; exact hv
          · rw [jset_j (by omega)]; exact k5 j (by omega) j1
      have tt := w_m1334_t WN
      have tn := w_m1334_n WN
      refine ⟨fun q => ⟨by unfold jR; omega, ⟨rfl, rfl, rfl, rfl, rfl, by omega, by omega, k3, fun i j i0 i1 j0 j1 => ?_⟩, by omega⟩, fun q => ⟨by unfold jR; omega, by unfold jR; omega, fun e => ?_, fun e => ⟨fun e2 => ?_, fun e2 => ?_⟩⟩⟩
      · by_cases hi : i = v5
        · rw [hi]; exact k5 j (by omega) j1
        · exact k4 i j (by omega) i1 j0 j1
      · subst e
        rw [tt, tn]
        exact ⟨wn, by unfold jR; omega, by unfold jR; omega, by unfold jR; omega, ⟨rfl, by omega, by omega⟩, by unfold jR; omega, fin _ (by rw [ds_n (by omega)]; omega) (by omega), by omega⟩
      · have e4 : N 2 (X + 245) (241 * v5 + v6 + 241 + 1) = ds a f m g (v5 + 1) (v6 + 1) := by
          rw [show 241 * v5 + v6 + 241 + 1 = 241 * (v5 + 1) + (v6 + 1) by omega]; exact k4 _ _ (by omega) (by omega) (by omega) (by omega)
        have e5 : N 2 (X + 245) (241 * v5 + v6 + 241) = ds a f m g (v5 + 1) v6 := by
          rw [show 241 * v5 + v6 + 241 = 241 * (v5 + 1) + v6 by omega]; exact k4 _ _ (by omega) (by omega) (by omega) (by omega)
        have e6 : N 2 (X + 245) (241 * v5 + v6 + 1) = ds a f m g v5 (v6 + 1) := by
          rw [show 241 * v5 + v6 + 1 = 241 * v5 + (v6 + 1) by omega]; exact k5 _ (by omega) (by omega)
        have r1 := @ds_r a m (v5 + 1) (v6 + 1) f g (by omega) (by omega)
        have r2 := @ds_r a m (v5 + 1) v6 f g (by omega) (by omega)
        have r3 := @ds_r a m v5 (v6 + 1) f g (by omega) (by omega)
        refine ⟨wn, wn, r_un RN A ht k1 (by omega) (fun _ => ⟨wn, r_un RN A hs (by omega) (by omega) (fun _ => ?_)⟩)⟩
        rw [w_model_1334 WN, tt, tn, e4, e5, e6, ← hf, ← hg]
        refine ⟨fun ne => ⟨wn, by unfold jR; omega, by unfold jR; omega, ⟨rfl, by omega, by omega⟩, wn, by unfold jR; omega, ⟨rfl, by omega, by omega⟩, wn, by unfold jR; omega, ⟨rfl, by omega, by omega⟩, ?_⟩, fun ne => ?_⟩
        · have d := ds_d (f := f) (g := g) (show v5 < a by omega) (show v6 < m by omega) ne
          have les : ∀ (x y : Int) (Q' : Int → JM → Prop), Q' (min x y) N → Runs G 246 0 0 [(0, x), (0, y)] N Q' := fun x y Q' hq => rn_X12_lesser _ _ N (sg_X12_lesser_0 _ _ N ⟨fun z => by rw [show min x y = y by omega] at hq; exact hq, fun z => by rw [show min x y = x by omega] at hq; exact hq⟩)
          refine les _ _ _ (fun _ => les _ _ _ (fun _ => ?_))
          rw [tt, tn]
          exact ⟨by unfold jR; omega, ⟨rfl, by omega, by omega⟩, by unfold jR; omega, fin _ (by omega) (by omega), by omega⟩
        · have d := ds_s (f := f) (g := g) (show v5 < a by omega) (show v6 < m by omega) (Classical.not_not.mp ne)
          exact ⟨wn, by unfold jR; omega, by unfold jR; omega, ⟨rfl, by omega, by omega⟩, ⟨rfl, by omega, by omega⟩, by unfold jR; omega, fin _ d.symm (by omega), by omega⟩
      · have e2 := Classical.not_not.mp e2
        subst e2
        rw [tt, tn]
        exact ⟨wn, by unfold jR; omega, by unfold jR; omega, by unfold jR; omega, ⟨rfl, by omega, by omega⟩, by unfold jR; omega, fin _ (by rw [ds_m (by omega)]; omega) (by omega), by omega⟩
    · rintro v0 v1 v2 v3 v4 v5 v6 N ⟨rfl, rfl, rfl, rfl, rfl, l, j1, k5⟩
      obtain ⟨tb, RN, fr⟩ := jt N l j1
      have WN := RN.1
      have wn := w_model_t WN
      obtain ⟨⟨b1, b2, b3, b4⟩, -⟩ := id k5
      rw [w_model_1334 WN, w_m1334_t WN, w_m1334_n WN]
      refine ⟨fun q => ⟨by unfold jR; omega, by unfold jR; omega, fun q2 => absurd q2 (by omega), fun _ => ⟨fun q2 => ⟨⟨rfl, rfl, rfl, rfl, rfl, rfl, Or.inl q, Or.inr ⟨rfl, by omega⟩, l, j1, k5⟩, by omega⟩, fun q2 => ⟨⟨rfl, rfl, rfl, rfl, rfl, rfl, Or.inl q, Or.inl ⟨rfl, by omega, by omega⟩, l, j1, k5⟩, by omega⟩⟩⟩, fun q => ⟨fun q2 => ?_, fun q2 => ⟨by unfold jR; omega, by unfold jR; omega, fun _ => ⟨⟨rfl, rfl, rfl, rfl, rfl, rfl, Or.inr (by omega), Or.inr ⟨rfl, by omega⟩, l, j1, k5⟩, by omega⟩, fun q3 => absurd (by omega) q3⟩⟩⟩
      obtain ⟨e1, e2⟩ := k5.stop (by omega)
      subst e1
      have t0 := tb 0 0 (by omega) (by omega) (by omega) (by omega)
      rw [show 241 * (0 : Int) + 0 = 0 by omega] at t0
      rw [t0]
      exact ⟨wn, ⟨rfl, by omega, by omega⟩, hQ N fr RN⟩
    · rintro v0 v1 v2 v3 v4 v5 v6 v7 v8 N ⟨rfl, rfl, rfl, rfl, rfl, rfl, on, k1, l, j1, k5⟩
      obtain ⟨tb, RN, fr⟩ := jt N l j1
      have WN := RN.1
      have wn := w_model_t WN
      have An := ads l
      obtain ⟨⟨b1, b2, b3, b4⟩, -⟩ := id k5
      rw [w_model_1334 WN, w_m1334_t WN, w_m1334_n WN]
      have t0 := tb v5 v6 b1 b2 b3 b4
      have r0 := @ds_r a m v5 v6 f g b2 b4
      rcases k1 with ⟨rfl, i1, i2⟩ | ⟨rfl, i1⟩
      · refine ⟨fun q => absurd q (by decide), fun _ => ⟨wn, r_un RN An ht b1 (by omega) (fun _ => ⟨wn, r_un RN An hs b3 (by omega) (fun _ => ?_)⟩)⟩⟩
        rw [w_model_1334 WN, w_m1334_t WN, w_m1334_n WN, ← hf, ← hg]
        have e4 := tb (v5 + 1) (v6 + 1) (by omega) (by omega) (by omega) (by omega)
        have e5 := tb (v5 + 1) v6 (by omega) (by omega) (by omega) (by omega)
        rw [show 241 * (v5 + 1) + (v6 + 1) = 241 * v5 + v6 + 241 + 1 by omega] at e4
        rw [show 241 * (v5 + 1) + v6 = 241 * v5 + v6 + 241 by omega] at e5
        rw [t0, e4, e5]
        refine ⟨fun ne => ⟨fun q => absurd q (by decide), fun _ => ⟨wn, by unfold jR; omega, by unfold jR; omega, ⟨rfl, by omega, by omega⟩, wn, ⟨rfl, by omega, by omega⟩, by unfold jR; omega, fun q1 => ⟨fun q => absurd q (by omega), fun _ => ⟨wn, by unfold jR; omega, ⟨rfl, by omega, by omega⟩, wn, ⟨rfl, by omega, by omega⟩, by unfold jR; omega, fun q2 => ⟨⟨rfl, rfl, rfl, rfl, rfl, on, fun z => ne z.2.2, ?_, l, j1, k5⟩, by omega⟩, fun q2 => ⟨⟨rfl, rfl, rfl, rfl, rfl, on, fun z => ne z.2.2, ?_, l, j1, k5⟩, by omega⟩⟩⟩, fun q1 => ⟨⟨rfl, rfl, rfl, rfl, rfl, on, fun z => ne z.2.2, ?_, l, j1, k5⟩, by omega⟩⟩⟩, fun ne => ⟨by unfold jR; omega, by unfold jR; omega, ⟨rfl, rfl, rfl, rfl, rfl, l, j1, k5.same i1 i2 (Classical.not_not.mp ne)⟩, by omega⟩⟩
        · unfold way; rw [if_neg (by omega), if_neg (by omega), if_neg q1, if_neg q2]
        · unfold way; rw [if_neg (by omega), if_neg (by omega), if_neg q1, if_pos (Classical.not_not.mp q2)]
        · unfold way; rw [if_neg (by omega), if_neg (by omega), if_pos (Classical.not_not.mp q1)]
      · refine ⟨fun _ => ⟨fun _ => ⟨fun q => ⟨⟨rfl, rfl, rfl, rfl, rfl, on, fun z => i1 ⟨z.1, z.2.1⟩, ?_, l, j1, k5⟩, by omega⟩, fun q => ?_⟩, fun q => absurd rfl q⟩, fun q => absurd rfl q⟩
        · unfold way; rw [if_pos (by omega)]
        · have e5 := tb (v5 + 1) v6 (by omega) (by omega) (by omega) (by omega)
          rw [show 241 * (v5 + 1) + v6 = 241 * v5 + v6 + 241 by omega] at e5
          have em : v6 = m := by omega
          have x1 : ds a f m g v5 v6 = a - v5 := by rw [em]; exact ds_m b2
          have x2 : ds a f m g (v5 + 1) v6 = a - (v5 + 1) := by rw [em]; exact ds_m (by omega)
          rw [t0, e5]
          refine ⟨wn, by unfold jR; omega, ⟨rfl, by omega, by omega⟩, wn, ⟨rfl, by omega, by omega⟩, by unfold jR; omega, fun q2 => absurd (by omega) q2, fun q2 => ⟨⟨rfl, rfl, rfl, rfl, rfl, on, fun z => i1 ⟨z.1, z.2.1⟩, ?_, l, j1, k5⟩, by omega⟩⟩
          unfold way; rw [if_neg (by omega), if_pos em]
    · rintro v0 v1 v2 v3 v4 v5 v6 v9 N ⟨rfl, rfl, rfl, rfl, rfl, on, ns, rfl, l, j1, k5⟩
      obtain ⟨tb, RN, fr⟩ := jt N l j1
      have WN := RN.1
      have wn := w_model_t WN
      have An := ads l
      have ln := k5.len on ns u2 w2 u1 w1
      obtain ⟨⟨b1, b2, b3, b4⟩, -⟩ := id k5
      obtain ⟨N1, o1, o2, o3, rd⟩ := j1
      have en := rd.1
      rw [w_model_1336 WN, w_m1336_t WN, w_m1336_n WN, w_model_1337 WN, w_m1337_t WN, w_m1337_n WN, w_model_1338 WN, w_m1338_t WN, w_m1338_n WN, en]
      have oo : ∀ w c e, Rof3 X N1 (jset (jset (jset (jset N 2 (X + 246) l.length w) 2 (X + 247) l.length c) 2 (X + 248) l.length e) 3235 (X + 218) 0 (l.length + 1)) := fun w c e => o3.trans fun k x j q1 q2 => by
        rw [show jset (jset (jset (jset N 2 (X + 246) _ w) 2 (X + 247) _ c) 2 (X + 248) _ e) 3235 (X + 218) 0 _ k x j = _ from if_neg (by omega), show jset (jset (jset N 2 (X + 246) _ w) 2 (X + 247) _ c) 2 (X + 248) _ e k x j = _ from if_neg (by omega), show jset (jset N 2 (X + 246) _ w) 2 (X + 247) _ c k x j = _ from if_neg (by omega)]
        exact if_neg (by omega)
      have jj : ∀ w c e, Jds X M1 a m (ds a f m g) (jset (jset (jset (jset N 2 (X + 246) l.length w) 2 (X + 247) l.length c) 2 (X + 248) l.length e) 3235 (X + 218) 0 (l.length + 1)) (l ++ [(w, c, e)]) := fun w c e => ⟨N1, o1, o2, oo w c e, rd.app (by decide) (by decide) (by decide) (by decide)⟩
      refine ⟨wn, wn, ⟨rfl, by omega, by omega⟩, wn, wn, ⟨rfl, by omega, by omega⟩, wn, wn, fun q => ⟨wn, ?_⟩, fun q => ?_⟩
      · -- a unit of the second is told
        have ot : ∀ (k : Nat) (x j : Int), ¬ (k = 2 ∧ (x = X + 246 ∨ x = X + 247)) → jset (jset N 2 (X + 246) l.length (way a f m g v5 v6)) 2 (X + 247) l.length v5 k x j = N k x j := fun k x j q1 => by
          rw [show jset (jset N 2 (X + 246) l.length (way a f m g v5 v6)) 2 (X + 247) l.length v5 k x j = jset N 2 (X + 246) l.length (way a f m g v5 v6) k x j from if_neg (by omega)]
          exact if_neg (by omega)
        have RO : RT X (jset (jset N 2 (X + 246) l.length (way a f m g v5 v6)) 2 (X + 247) l.length v5) T := ⟨by rw [ot _ _ _ (by omega)]; exact RN.2.1.1, fun x x0 x1 => ⟨by rw [ot _ _ _ (by omega)]; exact (RN.2.1.2 x x0 x1).1, fun i i0 i1 => by rw [ot _ _ _ (by omega)]; exact (RN.2.1.2 x x0 x1).2 i i0 i1⟩⟩
        have j6 : v6 < m := by
          rcases k5.step on ns with ⟨e, r1, r2⟩ | ⟨e, r1, r2⟩ | ⟨e, r1, r1', r2⟩
          · exact r1
          · exact absurd e q
          · exact r1'
        have WO : WSt X (jset (jset N 2 (X + 246) l.length (way a f m g v5 v6)) 2 (X + 247) l.length v5) := WN.keep fun k x j _ _ hk => ot k x j (by omega)
        refine r_unit WO RO An.1 hs.1 hs.2 b3 (by omega) (fun _ => ?_)
        rw [w_m1338_t WO, w_m1338_n WO, ot 3235 (X + 218) 0 (by omega), en, ← hg]
        refine ⟨⟨rfl, by omega, by omega⟩, w_model_t WO, by unfold jR; omega, w_model_t WO, ⟨rfl, rfl, rfl, rfl, rfl, _, jj _ _ _, ?_⟩, by omega⟩
        · rcases k5.step on ns with ⟨e, r1, r2⟩ | ⟨e, r1, r2⟩ | ⟨e, r1, r1', r2⟩
          · rw [e]; exact Or.inl ⟨rfl, r1, r2⟩
          · exact absurd e q
          · rw [e]; exact Or.inr (Or.inr ⟨rfl, r1, r1', r2⟩)
      · have q := Classical.not_not.mp q
        refine ⟨⟨rfl, by omega, by omega⟩, wn, by unfold jR; omega, wn, ⟨rfl, rfl, rfl, rfl, rfl, _, jj _ _ _, ?_⟩, by omega⟩
        rcases k5.step on ns with ⟨e, r1, r2⟩ | ⟨e, r1, r2⟩ | ⟨e, r1, r1', r2⟩
        · rw [e] at q; exact absurd q (by decide)
        · rw [e]; exact Or.inr (Or.inl ⟨rfl, r1, r2⟩)
        · rw [e] at q; exact absurd q (by decide)
    · rintro v0 v1 v2 v3 v4 v5 v6 v9 N ⟨rfl, rfl, rfl, rfl, rfl, l, j1, k5⟩
      rcases k5 with ⟨rfl, i1, k5⟩ | ⟨rfl, i1, k5⟩ | ⟨rfl, i1, i2, k5⟩
      · obtain ⟨⟨b1, b2, b3, b4⟩, -⟩ := id k5
        exact ⟨fun _ => ⟨by unfold jR; omega, fun _ => ⟨by unfold jR; omega, ⟨rfl, rfl, rfl, rfl, rfl, l, j1, by rw [Int.add_zero]; exact k5⟩, by omega⟩, fun q => absurd (by decide) q⟩, fun q => absurd (by decide) q⟩
      · obtain ⟨⟨b1, b2, b3, b4⟩, -⟩ := id k5
        exact ⟨fun q => absurd q (by decide), fun _ => ⟨by unfold jR; omega, fun q => absurd rfl q, fun _ => ⟨by unfold jR; omega, ⟨rfl, rfl, rfl, rfl, rfl, l, j1, by rw [Int.add_zero]; exact k5⟩, by omega⟩⟩⟩
      · obtain ⟨⟨b1, b2, b3, b4⟩, -⟩ := id k5
        exact ⟨fun q => absurd q (by decide), fun _ => ⟨by unfold jR; omega, fun _ => ⟨by unfold jR; omega, ⟨rfl, rfl, rfl, rfl, rfl, l, j1, k5⟩, by omega⟩, fun q => absurd (by decide) q⟩⟩
    · refine ⟨wt, r_isT R A ht (fun _ => ⟨fun q => absurd q (by decide), fun _ => ⟨wt, r_isT R A hs (fun _ => ⟨fun _ => ?_, fun q => absurd (by decide) q⟩)⟩⟩)⟩
      rw [w_model_1301 W, w_m1301_t W, w_m1301_n W, z1, y1]
      exact ⟨wt, ⟨rfl, ht.1, z3⟩, wt, ⟨rfl, hs.1, y3⟩, rfl, rfl, rfl, rfl, rfl, by omega, by omega, Tb.refl X M1, fun i j i0 i1 => by omega⟩)
end DIST3
