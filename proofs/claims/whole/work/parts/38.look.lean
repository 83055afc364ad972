/-! the reference's look: what all suffixes share -/
def Lk (X : Int) (M M' : JM) : Prop := ∀ k a j, ¬ (k = 2 ∧ a = X + 225) → M' k a j = M k a j
theorem Lk.W {X : Int} {M M' : JM} (h : Lk X M M') (W : WSt X M) : WSt X M' := W.keep fun k a j _ _ hk => h k a j (by omega)
theorem Lk.RT {X : Int} {M M' : JM} {T : ATx} (h : Lk X M M') (R : RT X M T) : RT X M' T := R.keep fun k a j g => h k a j (by unfold fpR at g; omega)
theorem Lk.RI {X : Int} {M M' : JM} {T : ATx} {K : AKp} {P : ATx} {D : ADt} (h : Lk X M M') (R : RI X M T K P D) : RI X M' T K P D := R.keep (h.W R.1) fun k a j g => h k a j (by unfold fpR at g; omega)
theorem Lk.FrR {X : Int} {M M' : JM} (h : Lk X M M') : FrR X M M' := fun k a j g => h k a j (by omega)
theorem Lk.refl (X : Int) (M : JM) : Lk X M M := fun _ _ _ _ => rfl
theorem Lk.set {X : Int} {M M' : JM} (h : Lk X M M') (j v : Int) : Lk X M (jset M' 2 (X + 225) j v) := fun k a i g => by
  rw [show jset M' 2 (X + 225) j v k a i = M' k a i from if_neg fun e => g ⟨e.1, e.2.1⟩]
  exact h k a i g
section LOOK
variable {G : JG} {Q : Int → JM → Prop} {M : JM} {X : Int}
set_option maxHeartbeats 1000000 in
theorem r_look {t s : Int} {T : ATx} (W : WSt X M) (R : RT X M T) (A : AT T) (ht : 0 ≤ t ∧ t < T.1) (hs : 0 ≤ s ∧ s < T.1) (h : ∀ M', Lk X M M' → (∀ i j, 0 ≤ i → i ≤ T.2.1 t → 0 ≤ j → j ≤ T.2.1 s → M' 2 (X + 225) (241 * i + j) = lcp2 (T.2.1 t) (T.2.2 t) (T.2.1 s) (T.2.2 s) i j) → Q 0 M') : Runs G 196 0 0 [(1, X + 218), (0, t), (0, s)] M Q := by
  obtain ⟨a1, a2, a3⟩ := id A
  obtain ⟨t1, t2, -⟩ := a3 t ht.1 ht.2
  obtain ⟨s1, s2, -⟩ := a3 s hs.1 hs.2
  have et := (R.2 t ht.1 ht.2).1
  have es := (R.2 s hs.1 hs.2).1
  refine lp_X12_look (fun v0 v1 v2 v3 v4 v5 N => v0 = X + 218 ∧ v1 = t ∧ v2 = s ∧ v3 = T.2.1 t ∧ v4 = T.2.1 s ∧ -1 ≤ v5 ∧ v5 ≤ T.2.1 t ∧ Lk X M N ∧ ∀ i j, v5 < i → i ≤ T.2.1 t → 0 ≤ j → j ≤ T.2.1 s → N 2 (X + 225) (241 * i + j) = lcp2 (T.2.1 t) (T.2.2 t) (T.2.1 s) (T.2.2 s) i j) (fun _ _ _ _ _ v5 => ((v5 + 2) * 1000).toNat) (fun v0 v1 v2 v3 v4 v5 v6 N => v0 = X + 218 ∧ v1 = t ∧ v2 = s ∧ v3 = T.2.1 t ∧ v4 = T.2.1 s ∧ 0 ≤ v5 ∧ v5 ≤ T.2.1 t ∧ -1 ≤ v6 ∧ v6 ≤ T.2.1 s ∧ Lk X M N ∧ (∀ i j, v5 < i → i ≤ T.2.1 t → 0 ≤ j → j ≤ T.2.1 s → N 2 (X + 225) (241 * i + j) = lcp2 (T.2.1 t) (T.2.2 t) (T.2.1 s) (T.2.2 s) i j) ∧ ∀ j, v6 < j → j ≤ T.2.1 s → N 2 (X + 225) (241 * v5 + j) = lcp2 (T.2.1 t) (T.2.2 t) (T.2.1 s) (T.2.2 s) v5 j) (fun _ _ _ _ _ v5 v6 => ((v5 + 1) * 1000 + v6 + 2).toNat) ?_ ?_ _ _ _ M ?_
  · rintro v0 v1 v2 v3 v4 v5 N ⟨rfl, rfl, rfl, rfl, rfl, i1, i2, i3, i4⟩
    refine ⟨fun g => h N i3 (fun i j g1 g2 g3 g4 => i4 i j (by omega) g2 g3 g4), fun g => ⟨⟨rfl, rfl, rfl, rfl, rfl, by omega, i2, by omega, by omega, i3, i4, fun j g1 g2 => by omega⟩, by omega⟩⟩
  · rintro v0 v1 v2 v3 v4 v5 v6 N ⟨rfl, rfl, rfl, rfl, rfl, i1, i2, i3, i4, i5, i6, i7⟩
    have WN := i5.W W
    have RN := i5.RT R
    have wt := w_model_t WN
    have nx : ∀ v, v = lcp2 (T.2.1 v1) (T.2.2 v1) (T.2.1 v2) (T.2.2 v2) v5 v6 → 0 ≤ v6 → ((fun v0 v1' v2' v3 v4 v5 v6 N => v0 = X + 218 ∧ v1' = v1 ∧ v2' = v2 ∧ v3 = T.2.1 v1 ∧ v4 = T.2.1 v2 ∧ 0 ≤ v5 ∧ v5 ≤ T.2.1 v1 ∧ -1 ≤ v6 ∧ v6 ≤ T.2.1 v2 ∧ Lk X M N ∧ (∀ i j, v5 < i → i ≤ T.2.1 v1 → 0 ≤ j → j ≤ T.2.1 v2 → N 2 (X + 225) (241 * i + j) = lcp2 (T.2.1 v1) (T.2.2 v1) (T.2.1 v2) (T.2.2 v2) i j) ∧ ∀ j, v6 < j → j ≤ T.2.1 v2 → N 2 (X + 225) (241 * v5 + j) = lcp2 (T.2.1 v1) (T.2.2 v1) (T.2.1 v2) (T.2.2 v2) v5 j) (X + 218) v1 v2 (T.2.1 v1) (T.2.1 v2) v5 (v6 + (-1)) (jset N 2 (X + 225) (241 * v5 + v6) v)) := fun v hv hv6 => ⟨rfl, rfl, rfl, rfl, rfl, i1, i2, by omega, by omega, i5.set _ _, fun i j g1 g2 g3 g4 => by rw [jset_j (by omega)]; exact i6 i j g1 g2 g3 g4, fun j g1 g2 => by
      by_cases hj : j = v6
      · subst hj; rw [jset_s]; exact hv
      · rw [jset_j (by omega)]; exact i7 j (by omega) g2⟩
    refine ⟨fun g => ⟨by unfold jR; omega, ⟨rfl, rfl, rfl, rfl, rfl, by omega, by omega, i5, fun i j g1 g2 g3 g4 => ?_⟩, by omega⟩, fun g => ?_⟩
    · by_cases hi : i = v5
      · subst hi; exact i7 j (by omega) g4
      · exact i6 i j (by omega) g2 g3 g4
    · rw [w_model_1308 WN, w_m1308_t WN, w_m1308_n WN]
      refine ⟨wt, by unfold jR; omega, by unfold jR; omega, fun g1 => ⟨⟨rfl, by omega, by omega⟩, by unfold jR; omega, nx 0 (by rw [lcp2_z (by omega)]) (by omega), by omega⟩, fun g1 => ⟨fun g2 => ⟨⟨rfl, by omega, by omega⟩, by unfold jR; omega, nx 0 (by rw [lcp2_z (by omega)]) (by omega), by omega⟩, fun g2 => ⟨wt, ?_⟩⟩⟩
      refine r_unit WN RN A ht.1 ht.2 i1 (by omega) (fun _ => ⟨wt, r_unit WN RN A hs.1 hs.2 (by omega) (by omega) (fun _ => ?_)⟩)
      rw [w_model_1308 WN, w_m1308_t WN, w_m1308_n WN]
      refine ⟨fun g3 => ?_, fun g3 => ⟨⟨rfl, by omega, by omega⟩, by unfold jR; omega, nx 0 (by rw [lcp2_z (fun q => g3 q.2.2)]) (by omega), by omega⟩⟩
      have e := i6 (v5 + 1) (v6 + 1) (by omega) (by omega) (by omega) (by omega)
      rw [show 241 * (v5 + 1) + (v6 + 1) = 241 * (v5 + 1) + v6 + 1 by omega] at e
      rw [e]
      have b := @lcp2_r (T.2.1 v1) (T.2.1 v2) (v5 + 1) (v6 + 1) (T.2.2 v1) (T.2.2 v2) (by omega) (by omega)
      exact ⟨wt, by unfold jR; omega, by unfold jR; omega, by unfold jR; omega, by unfold jR; omega, ⟨rfl, by omega, by omega⟩, by unfold jR; omega, ⟨rfl, by omega, by omega⟩, by unfold jR; omega, nx _ (lcp2_s (by omega) (by omega) g3).symm (by omega), by omega⟩
  · rw [w_model_1301 W, w_m1301_t W, w_m1301_n W, et, es]
    exact ⟨w_model_t W, ⟨rfl, ht.1, by omega⟩, w_model_t W, ⟨rfl, hs.1, by omega⟩, ⟨rfl, rfl, rfl, rfl, rfl, by omega, by omega, Lk.refl X M, fun i j g1 g2 => by omega⟩⟩
end LOOK
