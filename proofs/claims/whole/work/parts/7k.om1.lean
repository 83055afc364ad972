/-! what is in many texts: the reference sorts -/
theorem jsh1 {v : Int} (h0 : 0 ≤ v) (h1 : v ≤ 7) : 1 ≤ jshl 1 v ∧ jshl 1 v ≤ 128 ∧ jshl 2 v = 2 * jshl 1 v ∧ (v < 7 → jshl 1 (v + 1) = 2 * jshl 1 v) ∧ (v = 7 → jshl 1 v = 128) ∧ (v = 0 → jshl 1 v = 1) := by
  have : v = 0 ∨ v = 1 ∨ v = 2 ∨ v = 3 ∨ v = 4 ∨ v = 5 ∨ v = 6 ∨ v = 7 := by omega
  rcases this with rfl | rfl | rfl | rfl | rfl | rfl | rfl | rfl <;> decide
section OM1
variable {G : JG} {X : Int} {Q : Int → JM → Prop} {M : JM}
theorem r_byKey {A B n ks : Int} {g : Int → Int} (W : WSt X M) (hA : A = X + 237 ∨ A = X + 238) (hB : B = X + 237 ∨ B = X + 238) (hAB : A ≠ B) (hn : 0 ≤ n ∧ n ≤ 9600) (hk : 0 ≤ ks ∧ ks ≤ 65536) (hr : ∀ k, 0 ≤ k → k < n → 0 ≤ M 2 A k ∧ M 2 A k < 9600) (hg : ∀ k, 0 ≤ k → k < n → M 2 (X + 236) (M 2 A k) = g k ∧ 0 ≤ g k ∧ g k < ks) (h : ∀ M', (∀ (q : Nat) (a j : Int), ¬ (q = 2 ∧ (a = B ∨ a = X + 239)) → M' q a j = M q a j) → (∀ k, 0 ≤ k → k < n → M' 2 B (psn n g k) = M 2 A k) → Q 0 M') : Runs G 218 0 0 [(1, X + 218), (1, A), (1, B), (0, n), (0, ks)] M Q := by
  have base : ∀ N, (∀ (q : Nat) (a j : Int), ¬ (q = 2 ∧ (a = B ∨ a = X + 239)) → N q a j = M q a j) → WSt X N ∧ (∀ k, 0 ≤ k → k < n → N 2 A k = M 2 A k) ∧ ∀ k, 0 ≤ k → k < n → N 2 (X + 236) (M 2 A k) = g k := fun N o => ⟨W.keep fun k a j _ _ hk => o k a j (by omega), fun k k0 k1 => o _ _ _ (by omega), fun k k0 k1 => by rw [o _ _ _ (by omega)]; exact (hg k k0 k1).1⟩
  have tA : ∀ N, WSt X N → N 0 A 0 = 1 ∧ N 1 A 0 = 9600 := fun N w => by
    rcases hA with rfl | rfl
    · exact ⟨w_m1324_t w, w_m1324_n w⟩
    · exact ⟨w_m1325_t w, w_m1325_n w⟩
  have tB : ∀ N, WSt X N → N 0 B 0 = 1 ∧ N 1 B 0 = 9600 := fun N w => by
    rcases hB with rfl | rfl
    · exact ⟨w_m1324_t w, w_m1324_n w⟩
    · exact ⟨w_m1325_t w, w_m1325_n w⟩
  refine lp_X12_byKey
    (fun v0 v1 v2 v3 v4 v5 N => X + 218 = v0 ∧ A = v1 ∧ B = v2 ∧ n = v3 ∧ ks = v4 ∧ 0 ≤ v5 ∧ v5 ≤ ks + 1 ∧ (∀ (q : Nat) (a j : Int), ¬ (q = 2 ∧ (a = B ∨ a = X + 239)) → N q a j = M q a j) ∧ ∀ x, 0 ≤ x → x < v5 → N 2 (X + 239) x = 0) (fun _ _ _ _ _ v5 => (1000000 - v5).toNat)
    (fun v0 v1 v2 v3 v4 v5 N => X + 218 = v0 ∧ A = v1 ∧ B = v2 ∧ n = v3 ∧ ks = v4 ∧ 0 ≤ v5 ∧ v5 ≤ n ∧ (∀ (q : Nat) (a j : Int), ¬ (q = 2 ∧ (a = B ∨ a = X + 239)) → N q a j = M q a j) ∧ N 2 (X + 239) 0 = 0 ∧ ∀ v, 0 ≤ v → v < ks → N 2 (X + 239) (v + 1) = cntI (fun q => g q = v) v5) (fun _ _ _ _ _ v5 => (800000 - v5).toNat)
    (fun v0 v1 v2 v3 v4 v5 N => X + 218 = v0 ∧ A = v1 ∧ B = v2 ∧ n = v3 ∧ ks = v4 ∧ 1 ≤ v5 ∧ v5 ≤ ks + 1 ∧ (∀ (q : Nat) (a j : Int), ¬ (q = 2 ∧ (a = B ∨ a = X + 239)) → N q a j = M q a j) ∧ (∀ v, 0 ≤ v → v < v5 → N 2 (X + 239) v = cntI (fun q => g q < v) n) ∧ ∀ v, v5 ≤ v → v ≤ ks → N 2 (X + 239) v = cntI (fun q => g q = v - 1) n) (fun _ _ _ _ _ v5 => (600000 - v5).toNat)
    (fun v0 v1 v2 v3 v5 N => X + 218 = v0 ∧ A = v1 ∧ B = v2 ∧ n = v3 ∧ 0 ≤ v5 ∧ v5 ≤ n ∧ (∀ (q : Nat) (a j : Int), ¬ (q = 2 ∧ (a = B ∨ a = X + 239)) → N q a j = M q a j) ∧ (∀ v, 0 ≤ v → v < ks → N 2 (X + 239) v = cntI (fun q => g q < v) n + cntI (fun q => g q = v) v5) ∧ ∀ k, 0 ≤ k → k < v5 → N 2 B (psn n g k) = M 2 A k) (fun _ _ _ _ v5 => (400000 - v5).toNat) ?_ ?_ ?_ ?_ _ _ _ _ _ M ⟨rfl, rfl, rfl, rfl, rfl, by omega, by omega, fun _ _ _ _ => rfl, fun x x0 x1 => by omega⟩
  · rintro v0 v1 v2 v3 v4 v5 N ⟨rfl, rfl, rfl, rfl, rfl, i1, i2, i3, i4⟩
    obtain ⟨WN, eA, eK⟩ := base N i3
    rw [w_model_1326 WN, w_m1326_t WN, w_m1326_n WN]
    refine ⟨fun q => ⟨⟨rfl, rfl, rfl, rfl, rfl, by omega, hn.1, i3, i4 0 (by omega) (by omega), fun v v0 v1 => by rw [i4 (v + 1) (by omega) (by omega), cntI_z (by omega)]⟩, by omega⟩, fun q => ⟨w_model_t WN, ⟨rfl, i1, by omega⟩, by unfold jR; omega, ⟨rfl, rfl, rfl, rfl, rfl, by omega, by omega, fun q a j z => ?_, fun x x0 x1 => ?_⟩, by omega⟩⟩
    · rw [show jset N 2 (X + 239) v5 0 q a j = N q a j from if_neg (fun y => z ⟨y.1, Or.inr y.2.1⟩)]; exact i3 q a j z
    · by_cases c : x = v5
      · rw [c, jset_s]
      · rw [jset_j c]; exact i4 x x0 (by omega)
  · rintro v0 v1 v2 v3 v4 v5 N ⟨rfl, rfl, rfl, rfl, rfl, i1, i2, i3, i4, i5⟩
    obtain ⟨WN, eA, eK⟩ := base N i3
    have tn := tA N WN
    refine ⟨fun q => ⟨⟨rfl, rfl, rfl, rfl, rfl, by omega, by omega, i3, fun v v0 v1 => ?_, fun v v0 v1 => ?_⟩, by omega⟩, fun q => ?_⟩
    · have : v = 0 := by omega
      rw [this, i4]
      have z : cntI (fun q => g q < 0) n ≤ 0 := (cntI_none hn.1).mpr fun k k0 k1 y => by have := (hg k k0 k1).2; omega
      have := (cntI_r (p := fun q => g q < 0) hn.1).1
      omega
    · have e : v5 = n := by omega
      have := i5 (v - 1) (by omega) (by omega)
      rw [show v - 1 + 1 = v by omega, e] at this
      exact this
    · have gk := hg v5 i1 (by omega)
      have rk := hr v5 i1 (by omega)
      have cr := @cntI_r (fun q => g q = g v5) v5 i1
      rw [w_model_1326 WN, w_m1326_t WN, w_m1326_n WN, w_model_1323 WN, w_m1323_t WN, w_m1323_n WN, tn.1, tn.2, eA v5 i1 (by omega), eK v5 i1 (by omega), i5 (g v5) gk.2.1 gk.2.2]
      refine ⟨w_model_t WN, w_model_t WN, ⟨rfl, i1, by omega⟩, ⟨rfl, rk.1, by omega⟩, by unfold jR; omega, ⟨rfl, by omega, by omega⟩, by unfold jR; omega, ⟨rfl, by omega, by omega⟩, by unfold jR; omega, ⟨rfl, rfl, rfl, rfl, rfl, by omega, by omega, fun q a j z => ?_, ?_, fun v v0 v1 => ?_⟩, by omega⟩
      · rw [show jset N 2 (X + 239) (g v5 + 1) (cntI (fun q => g q = g v5) v5 + 1) q a j = N q a j from if_neg (fun y => z ⟨y.1, Or.inr y.2.1⟩)]; exact i3 q a j z
      · rw [jset_j (by omega)]; exact i4
      · by_cases c : v = g v5
        · rw [c, jset_s, cntI_t (p := fun q => g q = g v5) i1 rfl]
        · rw [jset_j (by omega), cntI_f (p := fun q => g q = v) i1 (fun y => c y.symm)]; exact i5 v v0 v1
  · rintro v0 v1 v2 v3 v4 v5 N ⟨rfl, rfl, rfl, rfl, rfl, i1, i2, i3, i4, i5⟩
    obtain ⟨WN, eA, eK⟩ := base N i3
    refine ⟨fun q => ⟨⟨rfl, rfl, rfl, rfl, by omega, hn.1, i3, fun v v0 v1 => ?_, fun k k0 k1 => by omega⟩, by omega⟩, fun q => ?_⟩
    · rw [i4 v v0 (by omega), cntI_z (p := fun q => g q = v) (by omega), Int.add_zero]
    · have c1 := @cntI_r (fun q => g q = v5 - 1) n hn.1
      have c2 := @cntI_r (fun q => g q < v5 - 1) n hn.1
      have ad : cntI (fun q => g q = v5 - 1) n + cntI (fun q => g q < v5 - 1) n = cntI (fun q => g q < v5) n := by
        have := @cntI_lt1 g (v5 - 1) n
        rw [show v5 - 1 + 1 = v5 by omega] at this
        omega
      rw [w_model_1326 WN, w_m1326_t WN, w_m1326_n WN, i5 v5 (by omega) (by omega), i4 (v5 - 1) (by omega) (by omega), ad]
      have c3 := @cntI_r (fun q => g q < v5) n hn.1
      refine ⟨w_model_t WN, ⟨rfl, by omega, by omega⟩, w_model_t WN, by unfold jR; omega, ⟨rfl, by omega, by omega⟩, by unfold jR; omega, ⟨rfl, by omega, by omega⟩, by unfold jR; omega, ⟨rfl, rfl, rfl, rfl, rfl, by omega, by omega, fun q a j z => ?_, fun v v0 v1 => ?_, fun v v0 v1 => ?_⟩, by omega⟩
      · rw [show jset N 2 (X + 239) v5 (cntI (fun q => g q < v5) n) q a j = N q a j from if_neg (fun y => z ⟨y.1, Or.inr y.2.1⟩)]; exact i3 q a j z
      · by_cases c : v = v5
        · rw [c, jset_s]
        · rw [jset_j c]; exact i4 v v0 (by omega)
      · rw [jset_j (by omega)]; exact i5 v (by omega) v1
  · rintro v0 v1 v2 v3 v5 N ⟨rfl, rfl, rfl, rfl, i1, i2, i3, i4, i5⟩
    obtain ⟨WN, eA, eK⟩ := base N i3
    have tn := tA N WN
    have tb := tB N WN
    refine ⟨fun q => h N i3 (fun k k0 k1 => i5 k k0 (by omega)), fun q => ?_⟩
    have gk := hg v5 i1 (by omega)
    have rk := hr v5 i1 (by omega)
    have ps : N 2 (X + 239) (g v5) = psn n g v5 := i4 (g v5) gk.2.1 gk.2.2
    have pr := psn_r (g := g) i1 (show v5 < n by omega)
    have rA : ∀ c x j, jset N 2 B c x 2 A j = N 2 A j := fun c x j => jset_a hAB _ _
    have rK : ∀ c x j, jset N 2 B c x 2 (X + 236) j = N 2 (X + 236) j := fun c x j => jset_a (by omega) _ _
    have rC : ∀ c x j, jset N 2 B c x 2 (X + 239) j = N 2 (X + 239) j := fun c x j => jset_a (by omega) _ _
    rw [w_model_1326 WN, w_model_1323 WN]
    simp only [rA, rK, rC]
    rw [w_m1326_t WN, w_m1326_n WN, w_m1323_t WN, w_m1323_n WN, tn.1, tn.2, tb.1, tb.2, eA v5 i1 (by omega), eK v5 i1 (by omega), ps]
    have wn := w_model_t WN
    refine ⟨wn, wn, ⟨rfl, i1, by omega⟩, ⟨rfl, rk.1, by omega⟩, ⟨rfl, gk.2.1, by omega⟩, ⟨rfl, i1, by omega⟩, ⟨rfl, pr.1, by omega⟩, wn, wn, ⟨rfl, i1, by omega⟩, ⟨rfl, rk.1, by omega⟩, ⟨rfl, gk.2.1, by omega⟩, by unfold jR; omega, ⟨rfl, gk.2.1, by omega⟩, by unfold jR; omega, ⟨trivial, trivial, trivial, trivial, by omega, by omega, fun q a j z => ?_, fun v v0 v1 => ?_, fun k k0 k1 => ?_⟩, by omega⟩
    · rw [show jset (jset N 2 B (psn n g v5) (M 2 A v5)) 2 (X + 239) (g v5) (psn n g v5 + 1) q a j = jset N 2 B (psn n g v5) (M 2 A v5) q a j from if_neg (fun y => z ⟨y.1, Or.inr y.2.1⟩), show jset N 2 B (psn n g v5) (M 2 A v5) q a j = N q a j from if_neg (fun y => z ⟨y.1, Or.inl y.2.1⟩)]; exact i3 q a j z
    · by_cases c : v = g v5
      · rw [c, jset_s, cntI_t (p := fun q => g q = g v5) i1 rfl]
        unfold psn; omega
      · rw [jset_j c, rC, cntI_f (p := fun q => g q = v) i1 (fun y => c y.symm)]; exact i4 v v0 v1
    · rw [jset_a (by omega)]
      by_cases c : k = v5
      · rw [c, jset_s]
      · rw [jset_j (fun y => c (psn_inj k0 (by omega) i1 (by omega) y))]; exact i5 k k0 (by omega)
end OM1
