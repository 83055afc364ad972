/-! texts that are not there: the reference; step: absent -/
def Rsf (X : Int) (M M' : JM) : Prop := ∀ (k : Nat) (a j : Int), ¬ (k = 3231 ∧ a = X + 218) → ¬ (k = 2 ∧ (a = X + 225 ∨ a = X + 243 ∨ a = X + 244)) → M' k a j = M k a j
theorem kpw_mono {k : Int} (h : 1 ≤ k) (e : Nat) : ∀ d : Nat, kpw k e ≤ kpw k (e + d)
  | 0 => Int.le_refl _
  | d + 1 => by
    have := kpw_mono h e d
    have p := kpw_pos h (e + d)
    show kpw k e ≤ kpw k (e + d) * k
    have := Int.mul_le_mul (Int.le_refl (kpw k (e + d))) h (by omega) (by omega)
    omega
section ABS3
variable {G : JG} {X : Int}
section ABS3R
variable {Q : Int → JM → Prop} {M : JM} {t : Int} {T : ATx} {K : AKp} {P : ATx} {D : ADt} {L : Int} {f : Int → Int}
theorem Rsf.refl (X : Int) (M : JM) : Rsf X M M := fun _ _ _ _ _ => rfl
theorem Rsf.trans {M' M'' : JM} (h : Rsf X M M') (g : Rsf X M' M'') : Rsf X M M'' := fun k a j q1 q2 => (g k a j q1 q2).trans (h k a j q1 q2)
theorem Rsf.ri {N : JM} (o : Rsf X M N) (R : RI X M T K P D) : RI X N T K P D := R.keep (R.1.keep fun k a j _ _ hk => o k a j (by omega) (by omega)) fun k a j q => o k a j (by unfold fpR at q; omega) (by unfold fpR at q; omega)
theorem Rsf.frr {N : JM} (o : Rsf X M N) : FrR X M N := fun k a j q => o k a j (by omega) (by omega)
theorem r_signs (R : RI X M T K P D) (A : AI T K P D) (ht : 0 ≤ t ∧ t < T.1) (hL : L = T.2.1 t) (hf : f = T.2.2 t) (h : ∀ M', Rsf X M M' → (∀ a j, a ≠ X + 243 → M' 2 a j = M 2 a j) → LT L f (M' 3231 (X + 218) 0) (M' 2 (X + 243)) → Q 0 M') : Runs G 242 0 0 [(1, X + 218), (0, t)] M Q := by
  obtain ⟨u1, u2, u3⟩ := A.1.2.2 t ht.1 ht.2
  rw [← hL] at u1 u2
  have base : ∀ N, (∀ (k : Nat) (a j : Int), ¬ (k = 3231 ∧ a = X + 218) → ¬ (k = 2 ∧ a = X + 243) → N k a j = M k a j) → Rsf X M N := fun N o k a j q1 q2 => o k a j q1 (by omega)
  refine lp_X12_signsOf (fun v0 v1 v2 N => X + 218 = v0 ∧ t = v1 ∧ 0 ≤ v2 ∧ v2 ≤ L ∧ (∀ (k : Nat) (a j : Int), ¬ (k = 3231 ∧ a = X + 218) → ¬ (k = 2 ∧ a = X + 243) → N k a j = M k a j) ∧ LT v2 f (N 3231 (X + 218) 0) (N 2 (X + 243))) (fun _ _ v2 => ((1000 - v2) * 1000 + 900).toNat)
    (fun v0 v1 v2 v3 v4 N => X + 218 = v0 ∧ t = v1 ∧ 0 ≤ v2 ∧ v2 < L ∧ v3 = f v2 ∧ 0 ≤ v4 ∧ v4 ≤ N 3231 (X + 218) 0 ∧ (∀ a, 0 ≤ a → a < v4 → N 2 (X + 243) a < f v2) ∧ (∀ (k : Nat) (a j : Int), ¬ (k = 3231 ∧ a = X + 218) → ¬ (k = 2 ∧ a = X + 243) → N k a j = M k a j) ∧ LT v2 f (N 3231 (X + 218) 0) (N 2 (X + 243))) (fun _ _ v2 _ v4 => ((1000 - v2) * 1000 + 899 - v4).toNat)
    (fun v0 v1 v2 v3 v4 v5 N => X + 218 = v0 ∧ t = v1 ∧ 0 ≤ v2 ∧ v2 < L ∧ v3 = f v2 ∧ 0 ≤ v4 ∧ v4 ≤ v5 ∧ v5 ≤ N 3231 (X + 218) 0 ∧ (∀ (k : Nat) (a j : Int), ¬ (k = 3231 ∧ a = X + 218) → ¬ (k = 2 ∧ a = X + 243) → N k a j = M k a j) ∧ ∃ g, LT v2 f (N 3231 (X + 218) 0) g ∧ (∀ a, 0 ≤ a → a < v4 → g a < f v2) ∧ (v4 < N 3231 (X + 218) 0 → f v2 < g v4) ∧ (∀ a, 0 ≤ a → a < v5 → N 2 (X + 243) a = g a) ∧ ∀ a, v5 < a → a ≤ N 3231 (X + 218) 0 → N 2 (X + 243) a = g (a - 1)) (fun _ _ v2 _ _ v5 => ((1000 - v2) * 1000 + v5).toNat) ?_ ?_ ?_ _ _ M ?_
  · rintro v0 v1 v2 N ⟨rfl, rfl, i1, i2, i3, i4⟩
    have RN := (base N i3).ri R
    have WN := RN.1
    have wn := w_model_t WN
    obtain ⟨y1, -, y3, -, -⟩ := r_txt RN A ht
    rw [← hL] at y1
    rw [w_model_1301 WN, w_m1301_t WN, w_m1301_n WN, y1]
    refine ⟨wn, ⟨rfl, ht.1, y3⟩, fun q => ?_, fun q => ⟨wn, r_un RN A ht i1 (by omega) (fun _ => ⟨⟨rfl, rfl, i1, by omega, by rw [hf], by omega, i4.1.1, fun a a0 a1 => by omega, i3, i4⟩, by omega⟩)⟩⟩
    have : v2 = L := by omega
    rw [this] at i4
    exact h N (base N i3) (fun a j ha => i3 _ _ _ (by omega) (by omega)) i4
  · rintro v0 v1 v2 v3 v4 N ⟨rfl, rfl, i1, i2, rfl, i5, i6, i7, i3, i4⟩
    have RN := (base N i3).ri R
    have WN := RN.1
    have wn := w_model_t WN
    have mb := i4.1
    rw [w_model_1332 WN, w_m1332_t WN, w_m1332_n WN]
    have sk : v4 < N 3231 (X + 218) 0 → N 2 (X + 243) v4 = f v2 → LT (v2 + 1) f (N 3231 (X + 218) 0) (N 2 (X + 243)) := fun z e => i4.skip i5 z e
    refine ⟨wn, fun q => ⟨wn, fun q2 => ⟨wn, ⟨rfl, rfl, i1, i2, rfl, i5, i6, Int.le_refl _, i3, _, i4, i7, fun z => by omega, fun a a0 a1 => rfl, fun a a0 a1 => by omega⟩, by omega⟩, fun q2 => absurd (by omega) q2⟩, fun q => ⟨wn, ⟨rfl, i5, by omega⟩, fun le => ⟨wn, fun q2 => absurd q2 (by omega), fun q2 => ⟨wn, ⟨rfl, i5, by omega⟩, fun e => ⟨by unfold jR; omega, ⟨rfl, rfl, by omega, by omega, i3, sk (by omega) e⟩, by omega⟩, fun e => ⟨wn, ⟨rfl, rfl, i1, i2, rfl, i5, i6, Int.le_refl _, i3, _, i4, i7, fun z => by omega, fun a a0 a1 => rfl, fun a a0 a1 => by omega⟩, by omega⟩⟩⟩, fun le => ⟨by unfold jR; omega, ⟨rfl, rfl, i1, i2, rfl, by omega, by omega, fun a a0 a1 => ?_, i3, i4⟩, by omega⟩⟩⟩
    by_cases c : a = v4
    · rw [c]; omega
    · exact i7 a a0 (by omega)
  · rintro v0 v1 v2 v3 v4 v5 N ⟨rfl, rfl, i1, i2, rfl, i5, i6, i6', i3, g, l1, l2, l3, l4, l5⟩
    have WN := ((base N i3).ri R).1
    have wn := w_model_t WN
    have mb := l1.1
    rw [w_model_1332 WN, w_m1332_t WN, w_m1332_n WN]
    refine ⟨fun q => ⟨wn, ⟨rfl, i5, by omega⟩, wn, by unfold jR; omega, wn, by unfold jR; omega, ⟨rfl, rfl, by omega, by omega, fun k a j q1 q2 => ?_, ?_⟩, by omega⟩, fun q => ⟨wn, wn, by unfold jR; omega, ⟨rfl, by omega, by omega⟩, ⟨rfl, by omega, by omega⟩, by unfold jR; omega, ⟨rfl, rfl, i1, i2, rfl, i5, by omega, ?_, fun k a j q1 q2 => ?_, g, ?_, l2, ?_, fun a a0 a1 => ?_, fun a a0 a1 => ?_⟩, by omega⟩⟩
    · rw [show jset (jset N 2 (X + 243) v4 (f v2)) 3231 (X + 218) 0 (N 3231 (X + 218) 0 + 1) k a j = jset N 2 (X + 243) v4 (f v2) k a j from if_neg (by omega), show jset N 2 (X + 243) v4 (f v2) k a j = N k a j from if_neg (by omega)]
      exact i3 k a j q1 q2
    · have e5 : v5 = v4 := by omega
      rw [jset_s]
      refine l1.put i1 i5 (by omega) l2 l3 (fun a a0 a1 => ?_) ?_ (fun a a0 a1 => ?_)
      · rw [jset_k (by decide), jset_j (by omega)]; exact l4 a a0 (by omega)
      · rw [jset_k (by decide), jset_s]
      · rw [jset_k (by decide), jset_j (by omega)]; exact l5 a (by omega) a1
    · rw [jset_k (by decide)]; omega
    · rw [show jset N 2 (X + 243) v5 (N 2 (X + 243) (v5 - 1)) k a j = N k a j from if_neg (by omega)]
      exact i3 k a j q1 q2
    · rw [jset_k (by decide)]; exact l1
    · rw [jset_k (by decide)]; exact l3
    · rw [jset_j (by omega)]; exact l4 a a0 (by omega)
    · rw [jset_k (by decide)] at a1
      by_cases c : a = v5
      · rw [c, jset_s, l4 (v5 - 1) (by omega) (by omega)]
      · rw [jset_j c]; exact l5 a (by omega) a1
  · refine ⟨w_model_t R.1, rfl, rfl, by omega, by omega, fun k a j q1 q2 => if_neg (by omega), ?_⟩
    rw [jset_s]
    exact ⟨⟨by omega, by omega⟩, fun a b a0 ab b1 => by omega, fun a a0 a1 => by omega, fun y y0 y1 => by omega⟩
theorem r_power {k m : Int} (W : WSt X M) (hk : M 3231 (X + 218) 0 = k) (k0 : 1 ≤ k) (k1 : k ≤ 240) (m0 : 0 ≤ m) (m1 : m ≤ 1000) (h : Q (min (kpw k m.toNat) 1000) M) : Runs G 244 0 0 [(1, X + 218), (0, m)] M Q := by
  refine lp_X12_power (fun v0 v1 v2 v3 N => M = N ∧ X + 218 = v0 ∧ m = v1 ∧ 0 ≤ v3 ∧ v3 ≤ m ∧ v2 = kpw k v3.toNat ∧ 1 ≤ v2 ∧ v2 ≤ 240000) (fun _ _ _ v3 => (2000 - v3).toNat) ?_ _ _ M ⟨rfl, rfl, rfl, by omega, m0, rfl, by omega, by omega⟩
  rintro v0 v1 v2 v3 N ⟨rfl, rfl, rfl, i1, i2, i3, i4, i5⟩
  rw [hk]
  have fin : (m ≤ v3 ∨ 1000 ≤ v2) → ((v2 ≤ 1000 → Q v2 M) ∧ (¬ v2 ≤ 1000 → Q 1000 M)) := fun z => by
    have mo := kpw_mono k0 v3.toNat (m.toNat - v3.toNat)
    rw [show v3.toNat + (m.toNat - v3.toNat) = m.toNat by omega, ← i3] at mo
    have eq : m ≤ v3 → kpw k m.toNat = v2 := fun y => by rw [i3, show m.toNat = v3.toNat by omega]
    refine ⟨fun y => ?_, fun y => ?_⟩
    · rw [show min (kpw k m.toNat) 1000 = v2 by
        rcases z with z | z
        · have := eq z; omega
        · omega] at h
      exact h
    · rw [show min (kpw k m.toNat) 1000 = 1000 by omega] at h
      exact h
  refine ⟨fun q => fin (Or.inl q), fun q => ⟨fun q2 => fin (Or.inr q2), fun q2 => ?_⟩⟩
  have b1 : v2 * k ≤ 1000 * 240 := Int.mul_le_mul (by omega) k1 (by omega) (by omega)
  have b2 : 1 * 1 ≤ v2 * k := Int.mul_le_mul i4 k0 (by omega) (by omega)
  refine ⟨w_model_t W, by unfold jR; omega, by unfold jR; omega, ⟨rfl, rfl, rfl, by omega, by omega, ?_, by omega, by omega⟩, by omega⟩
  rw [show (v3 + 1).toNat = v3.toNat + 1 by omega, i3]; rfl
theorem r_begin {N m : Int} (R : RI X M T K P D) (A : AI T K P D) (ht : 0 ≤ t ∧ t < T.1) (hL : L = T.2.1 t) (hf : f = T.2.2 t) (tb : Tbl X M L f) (hN : 1 ≤ N ∧ N ≤ 1000) (hm : 0 ≤ m ∧ m ≤ N ∧ m ≤ 241) (h : Q (Dn L f N (M 2 (X + 244)) m) M) : Runs G 243 0 0 [(1, X + 218), (0, t), (0, N), (0, m)] M Q := by
  have W := R.1
  have wt := w_model_t W
  obtain ⟨z1, -, z3, z4, z5⟩ := r_txt R A ht
  rw [← hL] at z1 z4 z5
  obtain ⟨w, hw⟩ : ∃ w, w = M 2 (X + 244) := ⟨_, rfl⟩
  rw [← hw] at h
  obtain ⟨p, hp⟩ : ∃ p : Int → Prop, p = fun x => FO L f N x ∧ ∀ d, 0 ≤ d → d < m → f (x + d) = w d := ⟨_, rfl⟩
  have hD : Dn L f N w m = cntI p (L + 1) := by rw [hp]; rfl
  refine lp_X12_beginning (fun v0 v1 v2 v3 v4 v5 V => M = V ∧ X + 218 = v0 ∧ t = v1 ∧ N = v2 ∧ m = v3 ∧ 0 ≤ v5 ∧ v5 ≤ L + 1 ∧ v4 = cntI p v5) (fun _ _ _ _ _ v5 => ((1000 - v5) * 1000).toNat) (fun v0 v1 v2 v3 v4 v5 v6 v7 V => M = V ∧ X + 218 = v0 ∧ t = v1 ∧ N = v2 ∧ m = v3 ∧ 0 ≤ v5 ∧ v5 + N ≤ L ∧ v4 = cntI p v5 ∧ 0 ≤ v7 ∧ v7 ≤ m ∧ ((v6 = 1 ∧ FO L f N v5 ∧ ∀ d, 0 ≤ d → d < v7 → f (v5 + d) = w d) ∨ (v6 = 0 ∧ ¬ p v5))) (fun _ _ _ _ _ v5 _ v7 => ((1000 - v5) * 1000 - 1 - v7).toNat) ?_ ?_ _ _ _ _ M ⟨rfl, rfl, rfl, rfl, rfl, by omega, by omega, by rw [cntI_z (by omega)]⟩
  · rintro v0 v1 v2 v3 v4 v5 V ⟨rfl, rfl, rfl, rfl, rfl, i1, i2, rfl⟩
    rw [w_model_1301 W, w_m1301_t W, w_m1301_n W, z1]
    refine ⟨by unfold jR; omega, wt, ⟨rfl, ht.1, z3⟩, fun q => ?_, fun q => ⟨wt, r_else (f := f) R A ht hL tb i1 (by omega) (fun c hc cl _ => ⟨fun le => ⟨⟨rfl, rfl, rfl, rfl, rfl, i1, by omega, rfl, by omega, hm.1, Or.inr ⟨rfl, fun z => ?_⟩⟩, by omega⟩, fun le => ⟨⟨rfl, rfl, rfl, rfl, rfl, i1, by omega, rfl, by omega, hm.1, Or.inl ⟨rfl, ⟨by omega, fun j j0 j1 z => ?_⟩, fun d d0 d1 => by omega⟩⟩, by omega⟩⟩)⟩⟩
    · have e : cntI p (L + 1) = cntI p v5 := smI_tail i1 i2 (fun x x0 x1 => b01_f (fun z => by rw [hp] at z; have := z.1.1; omega))
      rw [hD, e] at h
      exact h
    · rw [hp] at z
      rcases hc.2.2 with y | ⟨j, j0, j1⟩
      · omega
      · rcases j0 with y | y
        · exact absurd y.1 (by decide)
        · refine z.1.2 j y.2.1 y.2.2 (fun d d0 d1 => ?_)
          have := (lcp_ge (n := L) (m := L) (i := v5) (j := j) (b := N) (f := f) (g := f) (by omega) (by omega) (by omega)).mp (by omega) d d0 d1
          exact this.symm
    · have := (lcp_ge (n := L) (m := L) (i := v5) (j := j) (b := N) (f := f) (g := f) (by omega) (by omega) (by omega)).mpr (fun d d0 d1 => (z d d0 d1).symm)
      have := hc.2.1 j (Or.inr ⟨by decide, j0, j1⟩)
      omega
  · rintro v0 v1 v2 v3 v4 v5 v6 v7 V ⟨rfl, rfl, rfl, rfl, rfl, i1, i2, rfl, i4, i5, i6⟩
    have cr := cntI_r (p := p) i1
    have yes : (FO L f N v5 ∧ ∀ d, 0 ≤ d → d < m → f (v5 + d) = w d) → cntI p v5 + 1 = cntI p (v5 + 1) := fun z => (cntI_t i1 (by rw [hp]; exact z)).symm
    have no : ¬ p v5 → cntI p v5 + 0 = cntI p (v5 + 1) := fun z => by rw [Int.add_zero]; exact (cntI_f i1 z).symm
    rcases i6 with ⟨rfl, k1, k2⟩ | ⟨rfl, k1⟩
    · refine ⟨fun q => ⟨fun y => absurd y (by decide), fun _ => ⟨by unfold jR; omega, by unfold jR; omega, ⟨rfl, rfl, rfl, rfl, rfl, by omega, by omega, yes ⟨k1, fun d d0 d1 => k2 d d0 (by omega)⟩⟩, by omega⟩⟩, fun q => ⟨fun y => absurd y (by decide), fun _ => ⟨by unfold jR; omega, wt, r_un R A ht (by omega) (by omega) (fun _ => ?_)⟩⟩⟩
      rw [w_model_1333 W, w_m1333_t W, w_m1333_n W, ← hf, ← hw]
      refine ⟨wt, ⟨rfl, i4, by omega⟩, fun ne => ⟨by unfold jR; omega, ⟨rfl, rfl, rfl, rfl, rfl, i1, i2, rfl, by omega, by omega, Or.inr ⟨rfl, fun z => ?_⟩⟩, by omega⟩, fun ne => ⟨by unfold jR; omega, ⟨rfl, rfl, rfl, rfl, rfl, i1, i2, rfl, by omega, by omega, Or.inl ⟨rfl, k1, fun d d0 d1 => ?_⟩⟩, by omega⟩⟩
      · rw [hp] at z
        exact ne (z.2 v7 i4 (by omega))
      · by_cases c : d = v7
        · rw [c]; exact Classical.not_not.mp ne
        · exact k2 d d0 (by omega)
    · exact ⟨fun q => ⟨fun _ => ⟨by unfold jR; omega, by unfold jR; omega, ⟨rfl, rfl, rfl, rfl, rfl, by omega, by omega, no k1⟩, by omega⟩, fun y => absurd rfl y⟩, fun q => ⟨fun _ => ⟨fun _ => ⟨by unfold jR; omega, by unfold jR; omega, ⟨rfl, rfl, rfl, rfl, rfl, by omega, by omega, no k1⟩, by omega⟩, fun y => absurd rfl y⟩, fun y => absurd rfl y⟩⟩
end ABS3R
end ABS3
