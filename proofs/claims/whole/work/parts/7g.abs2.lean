/-! texts that are not there: the component -/
def Esf (X : Int) (M M' : JM) : Prop := ∀ (k : Nat) (a j : Int), ¬ (X + 155 ≤ a ∧ a ≤ X + 160 ∧ (k = 2 ∨ 2000 ≤ k)) → M' k a j = M k a j
theorem fit_all {n N x : Int} {f w : Int → Int} (hf : ∀ k, 0 ≤ k → k < n → 0 ≤ f k) (hN : 0 ≤ N) (x0 : 0 ≤ x) (x1 : x + N ≤ n) (hw : ∀ d, 0 ≤ d → d < N → 0 ≤ w d) : Fits f N w x (-1) 0 ↔ ∀ d, 0 ≤ d → d < N → f (x + d) = w d := by
  unfold Fits
  rw [cntI_none hN]
  unfold msm
  constructor
  · intro z d d0 d1
    have a := z d d0 d1
    have b := hf (x + d) (by omega) (by omega)
    have c := hw d d0 d1
    rcases Classical.em (f (x + d) = w d) with e | e
    · exact e
    · exact absurd ⟨e, by omega, by omega⟩ a
  · intro z d d0 d1 q
    exact q.1 (z d d0 d1)
theorem plF_first {n m sg c : Int} {f g : Int → Int} : ∀ (k : Nat) (i : Int), n - m - i < k → (plF n f m g sg c 0 k 0 i = -1 ∧ ∀ j, i ≤ j → j + m ≤ n → ¬ Fits f m g j sg c) ∨ (i ≤ plF n f m g sg c 0 k 0 i ∧ plF n f m g sg c 0 k 0 i + m ≤ n ∧ Fits f m g (plF n f m g sg c 0 k 0 i) sg c) := by
  intro k
  induction k with
  | zero => intro i h; exact Or.inl ⟨rfl, fun j j0 j1 => by omega⟩
  | succ k ih =>
    intro i h
    by_cases c1 : i + m ≤ n
    · rcases Classical.em (Fits f m g i sg c) with c2 | c2
      · have e : plF n f m g sg c 0 (k + 1) 0 i = i := by
          show cif (i + m ≤ n) (cif (Fits f m g i sg c) (cif ((0 : Int) = 0) i _) _) _ = i
          rw [cif_t c1, cif_t c2, cif_t rfl]
        rw [e]
        exact Or.inr ⟨Int.le_refl _, c1, c2⟩
      · have e : plF n f m g sg c 0 (k + 1) 0 i = plF n f m g sg c 0 k 0 (i + 1) := by
          show cif (i + m ≤ n) (cif (Fits f m g i sg c) _ (plF n f m g sg c 0 k 0 (i + 1))) _ = _
          rw [cif_t c1, cif_f c2]
        rw [e]
        rcases ih (i + 1) (by omega) with z | z
        · refine Or.inl ⟨z.1, fun j j0 j1 => ?_⟩
          by_cases q : j = i
          · rw [q]; exact c2
          · exact z.2 j (by omega) j1
        · exact Or.inr ⟨by omega, z.2⟩
    · exact Or.inl ⟨plF_z (by omega) _, fun j j0 j1 => by omega⟩
section ABS2
variable {G : JG} {X : Int} {Q : Int → JM → Prop} {M : JM}
theorem Esf.refl (X : Int) (M : JM) : Esf X M M := fun _ _ _ _ => rfl
theorem Esf.trans {M' M'' : JM} (h : Esf X M M') (g : Esf X M' M'') : Esf X M M'' := fun k a j q => (g k a j q).trans (h k a j q)
theorem Esf.w {M' : JM} (h : Esf X M M') (W : WSt X M) : WSt X M' := W.keep fun k a j _ _ hk => h k a j (by omega)
theorem Esf.txf {M' : JM} {x n : Int} {f : Int → Int} (h : Esf X M M') (t : Txf M x n f) (h1 : ¬ (X + 155 ≤ x ∧ x ≤ X + 160)) (h2 : ¬ (X + 155 ≤ M 1000 x 0 ∧ M 1000 x 0 ≤ X + 160)) : Txf M' x n f := by
  obtain ⟨t1, t2, t3, t4, t5, t6⟩ := t
  have e : M' 1000 x 0 = M 1000 x 0 := h _ _ _ (by omega)
  exact ⟨by rw [h _ _ _ (by omega)]; exact t1, by rw [h _ _ _ (by omega)]; exact t2, t3, by rw [e, h _ _ _ (by omega)]; exact t4, by rw [e, h _ _ _ (by omega)]; exact t5, fun i i0 i1 => by rw [e, h _ _ _ (by omega)]; exact t6 i i0 i1⟩
theorem c_gather {x n : Int} {f : Int → Int} (W : WSt X M) (A : Txf M x n f) (h1 : ¬ (X + 155 ≤ x ∧ x ≤ X + 160)) (h2 : ¬ (X + 155 ≤ M 1000 x 0 ∧ M 1000 x 0 ≤ X + 160)) (h : ∀ M', Esf X M M' → LT n f (M' 2304 (X + 155) 0) (M' 2 (X + 157)) → Q 0 M') : Runs G 22 0 0 [(1, X + 155), (1, x)] M Q := by
  have nb := A.2.2.1
  refine lp_X3_gatherLetters (fun v0 v1 v2 N => X + 155 = v0 ∧ x = v1 ∧ 0 ≤ v2 ∧ v2 ≤ n ∧ Esf X M N ∧ LT v2 f (N 2304 (X + 155) 0) (N 2 (X + 157))) (fun _ _ v2 => ((1000 - v2) * 1000).toNat) (fun v0 v1 v2 v3 v4 N => X + 155 = v0 ∧ x = v1 ∧ 0 ≤ v2 ∧ v2 < n ∧ v3 = f v2 ∧ 0 ≤ v4 ∧ v4 ≤ N 2304 (X + 155) 0 ∧ (∀ a, 0 ≤ a → a < v4 → N 2 (X + 157) a < f v2) ∧ Esf X M N ∧ LT v2 f (N 2304 (X + 155) 0) (N 2 (X + 157))) (fun _ _ v2 _ v4 => ((1000 - v2) * 1000 - 1 - v4).toNat) ?_ ?_ _ _ M ?_
  · rintro v0 v1 v2 N ⟨rfl, rfl, i1, i2, i3, i4⟩
    have AN := i3.txf A h1 h2
    rw [AN.2.1]
    refine ⟨AN.1, fun q => ?_, fun q => ⟨AN.1, ⟨AN.2.2.2.1, i1, by have := AN.2.2.2.2.1; omega⟩, ⟨rfl, rfl, i1, by omega, AN.2.2.2.2.2 v2 i1 (by omega), by omega, i4.1.1, fun a a0 a1 => by omega, i3, i4⟩, by omega⟩⟩
    have : v2 = n := by omega
    rw [this] at i4
    exact h N i3 i4
  · rintro v0 v1 v2 v3 v4 N ⟨rfl, rfl, i1, i2, rfl, i5, i6, i7, i3, i4⟩
    have WN := i3.w W
    have st := w_search_t WN
    have mb := i4.1
    have skip : v4 < N 2304 (X + 155) 0 → N 2 (X + 157) v4 = f v2 → LT (v2 + 1) f (N 2304 (X + 155) 0) (N 2 (X + 157)) := fun z e => i4.skip i5 z e
    have ins : (v4 < N 2304 (X + 155) 0 → f v2 < N 2 (X + 157) v4) → (X + 155 = X + 155 ∧ x = x ∧ 0 ≤ v2 + 1 ∧ v2 + 1 ≤ n ∧ Esf X M (jset (jset (jcpy N (X + 157) v4 (X + 157) (v4 + 1) (N 2304 (X + 155) 0 - v4)) 2 (X + 157) v4 (f v2)) 2304 (X + 155) 0 (N 2304 (X + 155) 0 + 1)) ∧ LT (v2 + 1) f (jset (jset (jcpy N (X + 157) v4 (X + 157) (v4 + 1) (N 2304 (X + 155) 0 - v4)) 2 (X + 157) v4 (f v2)) 2304 (X + 155) 0 (N 2304 (X + 155) 0 + 1) 2304 (X + 155) 0) (jset (jset (jcpy N (X + 157) v4 (X + 157) (v4 + 1) (N 2304 (X + 155) 0 - v4)) 2 (X + 157) v4 (f v2)) 2304 (X + 155) 0 (N 2304 (X + 155) 0 + 1) 2 (X + 157))) := fun z => by
      refine ⟨rfl, rfl, by omega, by omega, fun k a j q => ?_, ?_⟩
      · rw [show jset (jset (jcpy N (X + 157) v4 (X + 157) (v4 + 1) (N 2304 (X + 155) 0 - v4)) 2 (X + 157) v4 (f v2)) 2304 (X + 155) 0 (N 2304 (X + 155) 0 + 1) k a j = jset (jcpy N (X + 157) v4 (X + 157) (v4 + 1) (N 2304 (X + 155) 0 - v4)) 2 (X + 157) v4 (f v2) k a j from if_neg (by omega), show jset (jcpy N (X + 157) v4 (X + 157) (v4 + 1) (N 2304 (X + 155) 0 - v4)) 2 (X + 157) v4 (f v2) k a j = jcpy N (X + 157) v4 (X + 157) (v4 + 1) (N 2304 (X + 155) 0 - v4) k a j from if_neg (by omega), show jcpy N (X + 157) v4 (X + 157) (v4 + 1) (N 2304 (X + 155) 0 - v4) k a j = N k a j from if_neg (by omega)]
        exact i3 k a j q
      · rw [jset_s]
        refine i4.put i1 i5 i6 i7 z (fun a a0 a1 => ?_) ?_ (fun a a0 a1 => ?_)
        · rw [jset_k (by decide), jset_j (by omega)]
          exact if_neg (by omega)
        · rw [jset_k (by decide), jset_s]
        · rw [jset_k (by decide), jset_j (by omega), show jcpy N (X + 157) v4 (X + 157) (v4 + 1) (N 2304 (X + 155) 0 - v4) 2 (X + 157) a = N 2 (X + 157) (v4 + (a - (v4 + 1))) from if_pos ⟨rfl, rfl, by omega, by omega⟩, show v4 + (a - (v4 + 1)) = a - 1 by omega]
    rw [w_search_401 WN, w_eletters_t WN, w_eletters_n WN]
    refine ⟨st, fun q => ⟨st, st, Or.inl rfl, fun q2 => absurd q2 (by omega), fun _ => ⟨st, fun q3 => ⟨st, st, by unfold jR; omega, st, by unfold jR; omega, ⟨rfl, rfl, i5, by omega, by omega, by omega, by omega⟩, st, ⟨rfl, i5, by omega⟩, st, by unfold jR; omega, st, by unfold jR; omega, ins (fun z => by omega), by omega⟩, fun q3 => absurd (by omega) q3⟩⟩, fun q => ⟨st, ⟨rfl, i5, by omega⟩, fun le => ⟨st, st, Or.inl rfl, fun q2 => absurd q2 (by omega), fun _ => ⟨st, fun q3 => absurd q3 (by omega), fun q3 => ⟨st, ⟨rfl, i5, by omega⟩, fun e => ⟨by unfold jR; omega, ⟨rfl, rfl, by omega, by omega, i3, skip (by omega) e⟩, by omega⟩, fun e => ⟨st, st, by unfold jR; omega, st, by unfold jR; omega, ⟨rfl, rfl, i5, by omega, by omega, by omega, by omega⟩, st, ⟨rfl, i5, by omega⟩, st, by unfold jR; omega, st, by unfold jR; omega, ins (fun z => by omega), by omega⟩⟩⟩⟩, fun le => ⟨by unfold jR; omega, ⟨rfl, rfl, i1, i2, rfl, by omega, by omega, fun a a0 a1 => ?_, i3, i4⟩, by omega⟩⟩⟩
    by_cases c : a = v4
    · rw [c]; omega
    · exact i7 a a0 (by omega)
  · refine ⟨w_search_t W, rfl, rfl, by omega, by omega, fun k a j q => if_neg (by omega), ?_⟩
    rw [jset_s]
    exact ⟨⟨by omega, by omega⟩, fun a b a0 ab b1 => by omega, fun a a0 a1 => by omega, fun y y0 y1 => by omega⟩
theorem c_spell {N : Int} (W : WSt X M) (hN : 0 ≤ N ∧ N ≤ 240) (hc : ∀ d, 0 ≤ d → d < N → 0 ≤ M 2 (X + 158) d ∧ M 2 (X + 158) d < 240) (h : ∀ M', (∀ (k : Nat) (a j : Int), ¬ ((k = 2901 ∧ a = X + 159) ∨ (k = 2 ∧ a = X + 160)) → M' k a j = M k a j) → Txf M' (X + 159) N (fun d => M 2 (X + 157) (M 2 (X + 158) d)) → Q 0 M') : Runs G 24 0 0 [(1, X + 155), (0, N)] M Q := by
  refine lp_X3_spellChosen (fun v0 v1 v2 V => X + 155 = v0 ∧ N = v1 ∧ 0 ≤ v2 ∧ v2 ≤ N ∧ (∀ (k : Nat) (a j : Int), ¬ ((k = 2901 ∧ a = X + 159) ∨ (k = 2 ∧ a = X + 160)) → V k a j = M k a j) ∧ V 2901 (X + 159) 0 = v2 ∧ ∀ d, 0 ≤ d → d < v2 → V 2 (X + 160) d = M 2 (X + 157) (M 2 (X + 158) d)) (fun _ _ v2 => (1000 - v2).toNat) ?_ _ _ M ?_
  · rintro v0 v1 v2 V ⟨rfl, rfl, i1, i2, i3, i4, i5⟩
    have WV : WSt X V := W.keep fun k a j _ _ hk => i3 k a j (by omega)
    have sv := w_search_t WV
    have m1 := w_emissing_t WV
    have m2 := w_emissing_1000 WV
    have m3 := w_emarr_t WV
    have m4 := w_emarr_n WV
    refine ⟨fun q => h V i3 ⟨m1, by rw [i4]; omega, hN, by rw [m2]; exact m3, by rw [m2, m4]; exact hN.2, fun d d0 d1 => by rw [m2]; exact i5 d d0 (by omega)⟩, fun q => ?_⟩
    have cd := hc v2 i1 (by omega)
    rw [w_search_402 WV, w_search_401 WV, w_search_403 WV, w_echosen_t WV, w_echosen_n WV, w_eletters_t WV, w_eletters_n WV, i3 2 (X + 158) v2 (by omega), i3 2 (X + 157) _ (by omega)]
    have TT : Tx V (X + 159) 240 := ⟨m1, by rw [m2]; exact m3, by rw [m2]; exact m4, by rw [i4]; omega, by rw [i4]; omega, by decide⟩
    refine ⟨sv, sv, sv, ⟨rfl, i1, by omega⟩, ⟨rfl, cd.1, by omega⟩, m1, c_put TT (fun q2 _ => ?_) (fun q2 => absurd q2 (by omega))⟩
    unfold mput
    rw [m2, i4]
    refine ⟨by unfold jR; omega, ⟨rfl, rfl, by omega, by omega, fun k a j g => ?_, jset_s, fun d d0 d1 => ?_⟩, by omega⟩
    · rw [show jset (jset V 2 (X + 160) v2 (M 2 (X + 157) (M 2 (X + 158) v2))) 2901 (X + 159) 0 (v2 + 1) k a j = jset V 2 (X + 160) v2 (M 2 (X + 157) (M 2 (X + 158) v2)) k a j from if_neg (by omega), show jset V 2 (X + 160) v2 (M 2 (X + 157) (M 2 (X + 158) v2)) k a j = V k a j from if_neg (by omega)]
      exact i3 k a j g
    · rw [jset_k (by decide)]
      by_cases c : d = v2
      · rw [c, jset_s]
      · rw [jset_j c]; exact i5 d d0 (by omega)
  · rw [w_search_403 W]
    exact ⟨w_search_t W, w_emissing_t W, rfl, rfl, by omega, hN.1, fun k a j g => if_neg (by omega), jset_s, fun d d0 d1 => by omega⟩
theorem c_next {N k : Int} (W : WSt X M) (hk : M 2304 (X + 155) 0 = k) (hN : 1 ≤ N ∧ N ≤ 240) (k1 : k ≤ 240) (hc : ∀ d, 0 ≤ d → d < N → 0 ≤ M 2 (X + 158) d ∧ M 2 (X + 158) d < k) (h1 : ∀ d M', 0 ≤ d → d < N → (∀ (q : Nat) (a j : Int), ¬ (q = 2 ∧ a = X + 158) → M' q a j = M q a j) → (∀ e, 0 ≤ e → e < d → M' 2 (X + 158) e = M 2 (X + 158) e) → M' 2 (X + 158) d = M 2 (X + 158) d + 1 → M 2 (X + 158) d + 1 < k → (∀ e, d < e → e < N → M' 2 (X + 158) e = 0) → (∀ e, d < e → e < N → k ≤ M 2 (X + 158) e + 1) → Q 1 M') (h0 : ∀ M', (∀ (q : Nat) (a j : Int), ¬ (q = 2 ∧ a = X + 158) → M' q a j = M q a j) → (∀ e, 0 ≤ e → e < N → k ≤ M 2 (X + 158) e + 1) → Q 0 M') : Runs G 25 0 0 [(1, X + 155), (0, N)] M Q := by
  refine lp_X3_chooseNext (fun v0 v2 V => X + 155 = v0 ∧ -1 ≤ v2 ∧ v2 < N ∧ (∀ (q : Nat) (a j : Int), ¬ (q = 2 ∧ a = X + 158) → V q a j = M q a j) ∧ (∀ e, 0 ≤ e → e ≤ v2 → V 2 (X + 158) e = M 2 (X + 158) e) ∧ (∀ e, v2 < e → e < N → V 2 (X + 158) e = 0) ∧ ∀ e, v2 < e → e < N → k ≤ M 2 (X + 158) e + 1) (fun _ v2 => (v2 + 1).toNat) ?_ _ _ M ⟨by unfold jR; omega, rfl, by omega, by omega, fun _ _ _ _ => rfl, fun _ _ _ => rfl, fun e e0 e1 => by omega, fun e e0 e1 => by omega⟩
  rintro v0 v2 V ⟨rfl, i1, i2, i3, i4, i5, i6⟩
  have WV : WSt X V := W.keep fun q a j _ _ hk => i3 q a j (by omega)
  have sv := w_search_t WV
  refine ⟨fun q => ⟨Or.inl rfl, h0 V i3 (fun e e0 e1 => i6 e (by omega) e1)⟩, fun q => ?_⟩
  have cd := hc v2 (by omega) i2
  rw [w_search_402 WV, w_echosen_t WV, w_echosen_n WV, i4 v2 (by omega) (Int.le_refl _), i3 2304 (X + 155) 0 (by omega), hk]
  refine ⟨sv, ⟨rfl, by omega, by omega⟩, by unfold jR; omega, sv, fun le => ⟨sv, ⟨rfl, by omega, by omega⟩, by unfold jR; omega, ⟨rfl, by omega, by omega, fun q a j g => ?_, fun e e0 e1 => ?_, fun e e0 e1 => ?_, fun e e0 e1 => ?_⟩, by omega⟩, fun le => ⟨sv, ⟨rfl, by omega, by omega⟩, by unfold jR; omega, ⟨rfl, by omega, by omega⟩, Or.inr rfl, h1 v2 _ (by omega) i2 (fun q a j g => ?_) (fun e e0 e1 => ?_) jset_s (by omega) (fun e e0 e1 => ?_) i6⟩⟩
  · rw [show jset V 2 (X + 158) v2 0 q a j = V q a j from if_neg (fun z => g ⟨z.1, z.2.1⟩)]; exact i3 q a j g
  · rw [jset_j (by omega)]; exact i4 e e0 (by omega)
  · by_cases c : e = v2
    · rw [c, jset_s]
    · rw [jset_j c]; exact i5 e (by omega) e1
  · by_cases c : e = v2
    · rw [c]; exact le
    · exact i6 e (by omega) e1
  · rw [show jset V 2 (X + 158) v2 (M 2 (X + 158) v2 + 1) q a j = V q a j from if_neg (fun z => g ⟨z.1, z.2.1⟩)]; exact i3 q a j g
  · rw [jset_j (by omega)]; exact i4 e e0 (by omega)
  · rw [jset_j (by omega)]; exact i5 e e0 e1
theorem c_findM {x n N k : Int} {f g : Int → Int} (W : WSt X M) (A : Txf M x n f) (h1 : ¬ (X + 155 ≤ x ∧ x ≤ X + 160)) (h2 : ¬ (X + 155 ≤ M 1000 x 0 ∧ M 1000 x 0 ≤ X + 160)) (hf : ∀ i, 0 ≤ i → i < n → 0 ≤ f i) (hN : 2 ≤ N ∧ N ≤ 240) (hk : M 2304 (X + 155) 0 = k) (hg : M 2 (X + 157) = g) (L : LT n f k g) (k0 : 1 ≤ k) (hy : ∀ M' w, Esf X M M' → Txf M' (X + 159) N w → Lst n f N w → Q 1 M') (hn : ∀ M', Esf X M M' → M' 2304 (X + 155) 0 = k → M' 2 (X + 157) = g → Oall n f N → Q 0 M') : Runs G 23 0 0 [(1, X + 155), (1, x), (0, N)] M Q := by
  have nb := A.2.2.1
  have kb := L.1
  refine lp_X3_findMissing (fun v0 v1 v2 v3 V => X + 155 = v0 ∧ x = v1 ∧ N = v2 ∧ 0 ≤ v3 ∧ v3 ≤ N ∧ Esf X M V ∧ V 2304 (X + 155) 0 = k ∧ V 2 (X + 157) = g ∧ ∀ d, 0 ≤ d → d < v3 → V 2 (X + 158) d = 0) (fun _ _ _ v3 => (3000 - v3).toNat) (fun v0 v1 v2 v3 V => X + 155 = v0 ∧ x = v1 ∧ N = v2 ∧ 0 ≤ v3 ∧ v3 ≤ cls n f (fun d => g (V 2 (X + 158) d)) N ∧ Esf X M V ∧ V 2304 (X + 155) 0 = k ∧ V 2 (X + 157) = g ∧ (∀ d, 0 ≤ d → d < N → 0 ≤ V 2 (X + 158) d ∧ V 2 (X + 158) d < k) ∧ ∀ v, Ov n f v N → Lx v (fun d => g (V 2 (X + 158) d)) N → Oc n f v N) (fun _ _ _ v3 => (1000 - v3).toNat) ?_ ?_ _ _ _ M ⟨rfl, rfl, rfl, by omega, by omega, Esf.refl X M, hk, hg, fun d d0 d1 => by omega⟩
  · rintro v0 v1 v2 v3 V ⟨rfl, rfl, rfl, i1, i2, i3, i4, i5, i6⟩
    have WV := i3.w W
    have sv := w_search_t WV
    rw [w_search_402 WV, w_echosen_t WV, w_echosen_n WV]
    refine ⟨fun q => ⟨⟨rfl, rfl, rfl, by omega, cls_r.1, i3, i4, i5, fun d d0 d1 => by rw [i6 d d0 (by omega)]; omega, fun v hv hl => absurd hl (first_less (c := fun d => V 2 (X + 158) d) L hv k0 (fun e e0 e1 => i6 e e0 (by omega)))⟩, by omega⟩, fun q => ⟨sv, ⟨rfl, i1, by omega⟩, by unfold jR; omega, ⟨rfl, rfl, rfl, by omega, by omega, fun k a j z => ?_, ?_, ?_, fun d d0 d1 => ?_⟩, by omega⟩⟩
    · rw [show jset V 2 (X + 158) v3 0 k a j = V k a j from if_neg (by omega)]; exact i3 k a j z
    · rw [jset_k (by decide)]; exact i4
    · rw [← i5]; exact funext fun j => jset_a (by omega) _ _
    · by_cases c : d = v3
      · rw [c, jset_s]
      · rw [jset_j c]; exact i6 d d0 (by omega)
  · rintro v0 v1 v2 v3 V ⟨rfl, rfl, rfl, i1, i2, i3, i4, i5, i6, i7⟩
    have WV := i3.w W
    have sv := w_search_t WV
    have cr := @cls_r n f (fun d => g (V 2 (X + 158) d)) N
    refine ⟨fun q => absurd q (by omega), fun _ => ⟨sv, c_spell WV ⟨by omega, hN.2⟩ (fun d d0 d1 => by have := i6 d d0 d1; omega) (fun V1 o1 tf _ => ?_)⟩⟩
    rw [i5] at tf
    have e1 : Esf X V V1 := fun k a j z => o1 k a j (by omega)
    have W1 := e1.w WV
    have A1 := (i3.trans e1).txf A h1 h2
    have ov : Ov n f (fun d => g (V 2 (X + 158) d)) N := fun d d0 d1 => L.2.2.1 _ (i6 d d0 d1).1 (i6 d d0 d1).2
    have wn : ∀ d, 0 ≤ d → d < N → 0 ≤ g (V 2 (X + 158) d) := fun d d0 d1 => by
      obtain ⟨y, y0, y1, y2⟩ := ov d d0 d1
      have y2 : f y = g (V 2 (X + 158) d) := y2
      rw [← y2]; exact hf y y0 y1
    rw [w_search_403 W1]
    refine ⟨w_search_t W1, c_placeOf A1 tf (by decide) (fun _ => ?_)⟩
    have pf := plF_first (n := n) (m := N) (sg := -1) (c := 0) (f := f) (g := fun d => g (V 2 (X + 158) d)) 300 0 (by omega)
    obtain ⟨r, hr⟩ : ∃ r, r = plF n f N (fun d => g (V 2 (X + 158) d)) (-1) 0 0 300 0 0 := ⟨_, rfl⟩
    rw [← hr] at pf ⊢
    have k2 : V1 2304 (X + 155) 0 = k := by rw [o1 _ _ _ (by omega)]; exact i4
    have c2 : ∀ d, V1 2 (X + 158) d = V 2 (X + 158) d := fun d => o1 _ _ _ (by omega)
    have g2 : V1 2 (X + 157) = g := by rw [← i5]; exact funext fun j => o1 _ _ _ (by omega)
    refine ⟨fun ne => ⟨w_search_t W1, ?_⟩, fun ne => ⟨Or.inr rfl, hy V1 _ (i3.trans e1) tf ⟨ov, fun ⟨y, y0, y1, y2⟩ => ?_, i7⟩⟩⟩
    · -- it is there: the next choice
      have oc : Oc n f (fun d => g (V 2 (X + 158) d)) N := by
        rcases pf with z | z
        · exact absurd z.1 ne
        · exact ⟨r, z.1, z.2.1, (fit_all hf (by omega) z.1 z.2.1 wn).mp z.2.2⟩
      refine c_next W1 k2 ⟨by omega, hN.2⟩ (by omega) (fun d d0 d1 => by rw [c2]; exact i6 d d0 d1) (fun d V2 d0 d1 o2 lo at_ top z mx _ => ⟨fun _ => ?_, fun q => absurd (by decide) q⟩) (fun V2 o2 mx _ => ⟨fun q => absurd rfl q, fun _ => ⟨Or.inl rfl, hn V2 ((i3.trans e1).trans fun k a j z => o2 k a j (by omega)) (by rw [o2 _ _ _ (by omega)]; exact k2) (by rw [← g2]; exact funext fun j => o2 _ _ _ (by omega)) (fun v hv => ?_)⟩⟩)
      · rw [c2] at at_ top
        have lo' : ∀ e, 0 ≤ e → e < d → V2 2 (X + 158) e = V 2 (X + 158) e := fun e e0 e1 => by rw [lo e e0 e1, c2]
        have mx' : ∀ e, d < e → e < N → k ≤ V 2 (X + 158) e + 1 := fun e e0 e1 => by have := mx e e0 e1; rw [c2] at this; exact this
        have less : Lx (fun e => g (V 2 (X + 158) e)) (fun e => g (V2 2 (X + 158) e)) N := ⟨d, d0, d1, fun e e0 e1 => by show g (V 2 (X + 158) e) = g (V2 2 (X + 158) e); rw [lo' e e0 e1], by
          show g (V 2 (X + 158) d) < g (V2 2 (X + 158) d)
          rw [at_]
          have := i6 d d0 d1
          exact L.2.1 _ _ this.1 (by omega) top⟩
        have cs := cls_step less oc
        refine ⟨by unfold jR; omega, ⟨rfl, rfl, rfl, by omega, by omega, (i3.trans e1).trans (fun k a j z => o2 k a j (by omega)), by rw [o2 _ _ _ (by omega)]; exact k2, by rw [← g2]; exact funext fun j => o2 _ _ _ (by omega), fun e e0 e1 => ?_, fun v hv hl => ?_⟩, by omega⟩
        · rcases Int.lt_trichotomy e d with y | y | y
          · rw [lo' e e0 y]; exact i6 e e0 e1
          · rw [y, at_]; have := i6 d d0 d1; omega
          · rw [z e y e1]; omega
        · rcases next_less (c := fun e => V 2 (X + 158) e) (c' := fun e => V2 2 (X + 158) e) L hv i6 d0 d1 lo' at_ top z mx' hl with y | y
          · exact i7 v hv y
          · exact Oc_c (fun e e0 e1 => (y e e0 e1).symm) oc
      · rcases last_less (c := fun e => V 2 (X + 158) e) L hv i6 (fun e e0 e1 => by have := mx e e0 e1; rw [c2] at this; exact this) with y | y
        · exact i7 v hv y
        · exact Oc_c (fun e e0 e1 => (y e e0 e1).symm) oc
    · rcases pf with z | z
      · exact z.2 y y0 y1 ((fit_all hf (by omega) y0 y1 wn).mpr y2)
      · exact absurd (Classical.not_not.mp ne) (by omega)
theorem c_miss {x n : Int} {f : Int → Int} (W : WSt X M) (hX : 0 < X) (A : Txf M x n f) (h1 : ¬ (X + 155 ≤ x ∧ x ≤ X + 160)) (h2 : ¬ (X + 155 ≤ M 1000 x 0 ∧ M 1000 x 0 ≤ X + 160)) (hf : ∀ i, 0 ≤ i → i < n → 0 ≤ f i) (hn : 1 ≤ n) (hy : ∀ M' N w, Esf X M M' → Txf M' (X + 159) N w → N ≤ 240 → AB n f N w → Q (X + 159) M') (hno : ∀ M', Esf X M M' → (∀ m, 1 ≤ m → m ≤ 240 → Oall n f m) → Q 0 M') : Runs G 21 0 0 [(1, X + 155), (1, x)] M Q := by
  refine lp_X3_missingIn (fun v0 v1 v2 V => X + 155 = v0 ∧ x = v1 ∧ 2 ≤ v2 ∧ v2 ≤ 241 ∧ Esf X M V ∧ LT n f (V 2304 (X + 155) 0) (V 2 (X + 157)) ∧ ∀ m, 1 ≤ m → m < v2 → Oall n f m) (fun _ _ v2 => (1000 - v2).toNat) ?_ _ _ M ?_
  · rintro v0 v1 v2 V ⟨rfl, rfl, i1, i2, i3, i4, i5⟩
    have WV := i3.w W
    have k0 : 1 ≤ V 2304 (X + 155) 0 := by
      obtain ⟨a, a0, a1, _⟩ := i4.2.2.2 0 (by omega) (by omega)
      omega
    refine ⟨fun q => hno V i3 (fun m m0 m1 => i5 m m0 (by omega)), fun q => ⟨w_search_t WV, c_findM WV (i3.txf A h1 h2) h1 (by rw [i3 _ _ _ (by omega)]; exact h2) hf ⟨i1, by omega⟩ rfl rfl i4 k0 (fun V' w o tf l _ => ⟨fun q => absurd q (by decide), fun _ => ?_⟩) (fun V' o e1 e2 al _ => ⟨fun _ => ⟨by unfold jR; omega, ⟨rfl, rfl, by omega, by omega, i3.trans o, ?_, fun m m0 m1 => ?_⟩, by omega⟩, fun q => absurd rfl q⟩)⟩⟩
    · have W' := o.w WV
      rw [w_search_403 W']
      exact ⟨w_search_t W', hy V' v2 w (i3.trans o) tf (by omega) ⟨by omega, l, i5⟩⟩
    · rw [e1, e2]; exact i4
    · by_cases c : m = v2
      · rw [c]; exact al
      · exact i5 m m0 (by omega)
  · refine ⟨w_search_t W, c_gather W A h1 h2 (fun V o l _ => ⟨rfl, rfl, by omega, by omega, o, l, fun m m0 m1 w hw => ?_⟩)⟩
    have : m = 1 := by omega
    subst this
    obtain ⟨y, y0, y1, y2⟩ := hw 0 (by omega) (by omega)
    exact ⟨y, y0, by omega, fun d d0 d1 => by
      have : d = 0 := by omega
      rw [this, Int.add_zero]; exact y2⟩
end ABS2
