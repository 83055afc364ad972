/-! what is in many texts: the reference ranks all places -/
def Orf (X : Int) (M M' : JM) : Prop := ∀ (q : Nat) (a j : Int), ¬ (q = 3219 ∧ a = X + 218) → ¬ (q = 2 ∧ X + 233 ≤ a ∧ a ≤ X + 239) → M' q a j = M q a j
/-- all places are ranked -/
def Rall (X : Int) (M : JM) (T : ATx) : Prop := M 3219 (X + 218) 0 = bsT T T.1 ∧ (∀ p, 0 ≤ p → p < bsT T T.1 → M 2 (X + 233) p = txT T p ∧ M 2 (X + 234) p = lfT T p) ∧ ∀ lv, 0 ≤ lv → lv ≤ 7 → Rkp (bsT T T.1) (lfT T) (unT T) (jshl 1 lv) (fun p => M 2 (X + 235) (9600 * lv + p))
theorem Rkp.c {n h : Int} {lf U R R' : Int → Int} (K : Rkp n lf U h R) (e : ∀ p, 0 ≤ p → p < n → R' p = R p) : Rkp n lf U h R' := ⟨fun p q hp hq => by rw [e p hp.1 hp.2.1, e q hq.1 hq.2.1]; exact K.1 p q hp hq, fun p hp => by rw [e p hp.1 hp.2.1]; exact K.2 p hp⟩
theorem eqh_one {U : Int → Int} {a b : Int} : eqh U 1 a b ↔ U a = U b := by
  constructor
  · intro h
    have := h 0 (by omega) (by omega)
    rw [Int.add_zero, Int.add_zero] at this
    exact this
  · intro h k k0 k1
    have : k = 0 := by omega
    rw [this, Int.add_zero, Int.add_zero]; exact h
section OM4
variable {G : JG} {X : Int} {Q : Int → JM → Prop} {M : JM} {T : ATx}
theorem Orf.refl (X : Int) (M : JM) : Orf X M M := fun _ _ _ _ _ => rfl
theorem Orf.trans {M' M'' : JM} (h : Orf X M M') (g : Orf X M' M'') : Orf X M M'' := fun k a j q1 q2 => (g k a j q1 q2).trans (h k a j q1 q2)
theorem Orf.w {M' : JM} (o : Orf X M M') (W : WSt X M) : WSt X M' := W.keep fun k a j _ _ hk => o k a j (by omega) (by omega)
theorem Osf.orf {M' : JM} (o : Osf X M M') : Orf X M M' := fun k a j _ q2 => o k a j (by omega)
theorem Rall.keep {M' : JM} (h : Rall X M T) (A : AT T) (o : Osf X M M') : Rall X M' T := ⟨by rw [o _ _ _ (by omega)]; exact h.1, fun p p0 p1 => ⟨by rw [o _ _ _ (by omega)]; exact (h.2.1 p p0 p1).1, by rw [o _ _ _ (by omega)]; exact (h.2.1 p p0 p1).2⟩, fun lv l0 l1 => (h.2.2 lv l0 l1).c fun p p0 p1 => o _ _ _ (by omega)⟩
set_option maxHeartbeats 2000000 in
theorem r_rankAll (W : WSt X M) (R : RT X M T) (A : AT T) (h : ∀ M', Orf X M M' → Rall X M' T → Q 0 M') : Runs G 221 0 0 [(1, X + 218)] M Q := by
  have a1 := A.1
  have a2 := A.2.1
  have L := pls_T A
  obtain ⟨n, hn⟩ : ∃ n, n = bsT T T.1 := ⟨_, rfl⟩
  rw [← hn] at L
  have nb := L.1
  have rt : ∀ N, Orf X M N → WSt X N ∧ RT X N T := fun N o => ⟨o.w W, R.kp fun k a j q => o k a j (by omega) (by omega)⟩
  have v1 : ∀ p, 0 ≤ p → p < n → vld n (lfT T) 1 p := fun p p0 p1 => ⟨p0, p1, (L.2.1 p p0 p1).1.1⟩
  refine lp_X12_rankAll
    (fun v0 v1 N => X + 218 = v0 ∧ 0 ≤ v1 ∧ v1 ≤ T.1 ∧ Orf X M N ∧ N 3219 (X + 218) 0 = bsT T v1 ∧ ∀ p, 0 ≤ p → p < bsT T v1 → N 2 (X + 233) p = txT T p ∧ N 2 (X + 234) p = lfT T p ∧ N 2 (X + 236) p = unT T p ∧ N 2 (X + 237) p = p) (fun _ v1 => (1000000000 - v1 * 1000).toNat)
    (fun v0 v1 v2 N => X + 218 = v0 ∧ 0 ≤ v1 ∧ v1 < T.1 ∧ 0 ≤ v2 ∧ v2 ≤ T.2.1 v1 ∧ Orf X M N ∧ N 3219 (X + 218) 0 = bsT T v1 + v2 ∧ ∀ p, 0 ≤ p → p < bsT T v1 + v2 → N 2 (X + 233) p = txT T p ∧ N 2 (X + 234) p = lfT T p ∧ N 2 (X + 236) p = unT T p ∧ N 2 (X + 237) p = p) (fun _ v1 v2 => (1000000000 - v1 * 1000 - 1 - v2).toNat)
    (fun v0 v1 v2 N => X + 218 = v0 ∧ 0 ≤ v2 ∧ v2 ≤ n ∧ Orf X M N ∧ N 3219 (X + 218) 0 = n ∧ (∀ p, 0 ≤ p → p < n → N 2 (X + 233) p = txT T p ∧ N 2 (X + 234) p = lfT T p ∧ N 2 (X + 236) p = unT T p) ∧ Sq n (lfT T) (unT T) 1 n (N 2 (X + 238)) ∧ v1 = chg (unT T) 1 (N 2 (X + 238)) v2 ∧ ∀ j, 0 ≤ j → j < v2 → N 2 (X + 235) (N 2 (X + 238) j) = chg (unT T) 1 (N 2 (X + 238)) (j + 1)) (fun _ _ v2 => (500000000 - v2).toNat)
    (fun v0 v2 N => X + 218 = v0 ∧ 1 ≤ v2 ∧ v2 ≤ 8 ∧ Orf X M N ∧ N 3219 (X + 218) 0 = n ∧ (∀ p, 0 ≤ p → p < n → N 2 (X + 233) p = txT T p ∧ N 2 (X + 234) p = lfT T p) ∧ ∀ lv, 0 ≤ lv → lv < v2 → Rkp n (lfT T) (unT T) (jshl 1 lv) (fun p => N 2 (X + 235) (9600 * lv + p))) (fun _ v2 => (400000000 - v2 * 1000000).toNat)
    (fun v0 v1 v2 v3 v4 N => X + 218 = v0 ∧ 1 ≤ v2 ∧ v2 ≤ 7 ∧ 0 ≤ v4 ∧ v4 ≤ v3 ∧ Orf X M N ∧ N 3219 (X + 218) 0 = n ∧ (∀ p, 0 ≤ p → p < n → N 2 (X + 233) p = txT T p ∧ N 2 (X + 234) p = lfT T p) ∧ (∀ lv, 0 ≤ lv → lv < v2 → Rkp n (lfT T) (unT T) (jshl 1 lv) (fun p => N 2 (X + 235) (9600 * lv + p))) ∧ ∃ sq, Sq n (lfT T) (unT T) (jshl 1 v2) v3 sq ∧ (∀ a, 0 ≤ a → a < v3 → N 2 (X + 237) a = sq a) ∧ v1 = chg (unT T) (jshl 1 v2) sq v4 ∧ ∀ j, 0 ≤ j → j < v4 → N 2 (X + 235) (9600 * v2 + sq j) = chg (unT T) (jshl 1 v2) sq (j + 1)) (fun _ _ v2 _ v4 => (400000000 - v2 * 1000000 - 1 - v4).toNat) ?_ ?_ ?_ ?_ ?_ _ M ?_
  · rintro v0 t N ⟨rfl, i1, i2, i3, i4, i5⟩
    obtain ⟨WN, RN⟩ := rt N i3
    have wn := w_model_t WN
    rw [RN.1, i4]
    refine ⟨wn, fun q => ⟨wn, wn, wn, wn, ?_⟩, fun q => ⟨⟨rfl, i1, by omega, by omega, (A.2.2 t i1 (by omega)).1, i3, by omega, fun p p0 p1 => i5 p p0 (by omega)⟩, by omega⟩⟩
    have e : t = T.1 := by omega
    subst e
    rw [← hn] at i4 i5
    rw [w_model_1324 WN, w_model_1325 WN, ← hn]
    refine r_byKey (g := unT T) WN (Or.inl rfl) (Or.inr rfl) (by omega) ⟨nb.1, by omega⟩ ⟨by omega, by omega⟩ (fun k k0 k1 => by rw [(i5 k k0 k1).2.2.2]; omega) (fun k k0 k1 => ?_) (fun N' o' ps _ => ?_)
    · have u := (L.2.1 k k0 k1).2.2
      rw [(i5 k k0 k1).2.2.2]
      exact ⟨(i5 k k0 k1).2.2.1, u.1, by omega⟩
    · have ps' : ∀ k, 0 ≤ k → k < n → N' 2 (X + 238) (psn n (unT T) k) = k := fun k k0 k1 => by rw [ps k k0 k1]; exact (i5 k k0 k1).2.2.2
      have pp := psn_prm (n := n) (g := unT T) nb.1
      have S : Sq n (lfT T) (unT T) 1 n (N' 2 (X + 238)) := by
        refine ⟨⟨nb.1, Int.le_refl _⟩, fun a b0 b1 => ?_, fun p vp => ?_, fun a b b0 ab b1 => ?_⟩
        · obtain ⟨r, r0, r1, r2⟩ := pp.2.2 a b0 b1
          rw [← r2, ps' r r0 r1]; exact v1 r r0 r1
        · have := pp.1 p vp.1 vp.2.1
          exact ⟨_, this.1, this.2, ps' p vp.1 vp.2.1⟩
        · obtain ⟨r, q', r0, r1, q0, q1, er, eq', od⟩ := put_ord (od := N' 2 (X + 238)) (sp := fun k => k) (g := unT T) nb.1 ps' b0 ab b1
          rw [er, eq']
          rcases od with z | z
          · refine Or.inl ⟨0, by omega, by omega, fun m m0 m1 => by omega, ?_⟩
            rw [Int.add_zero, Int.add_zero]; exact z
          · exact Or.inr ⟨eqh_one.mpr z.1, z.2⟩
      exact ⟨⟨rfl, by omega, nb.1, i3.trans (fun q a j z1 z2 => o' q a j (by omega)), by rw [o' _ _ _ (by omega)]; exact i4, fun p p0 p1 => ⟨by rw [o' _ _ _ (by omega)]; exact (i5 p p0 p1).1, by rw [o' _ _ _ (by omega)]; exact (i5 p p0 p1).2.1, by rw [o' _ _ _ (by omega)]; exact (i5 p p0 p1).2.2.1⟩, S, by unfold chg; rw [cntI_z (by omega)], fun j j0 j1 => by omega⟩, by omega⟩
  · rintro v0 t i N ⟨rfl, i1, i2, j1, j2, i3, i4, i5⟩
    obtain ⟨WN, RN⟩ := rt N i3
    have wn := w_model_t WN
    have rl := (RN.2 t i1 i2).1
    obtain ⟨u1, u2, u3⟩ := A.2.2 t i1 i2
    have br := bsT_r A i1 (show t ≤ T.1 by omega)
    rw [w_model_1301 WN, w_m1301_t WN, w_m1301_n WN, rl]
    refine ⟨wn, ⟨rfl, i1, by omega⟩, fun q => ⟨by unfold jR; omega, ⟨rfl, by omega, by omega, i3, ?_, ?_⟩, by omega⟩, fun q => ?_⟩
    · rw [i4, bsT_s i1, show i = T.2.1 t by omega]
    · rw [bsT_s i1]
      intro p p0 p1
      exact i5 p p0 (by omega)
    · have e0 := loc_at A i1 i2 j1 (show i < T.2.1 t by omega)
      have m := bsT_mono A (show 0 ≤ t + 1 by omega) (show t + 1 ≤ T.1 by omega) (Int.le_refl _)
      rw [bsT_s i1, ← hn] at m
      obtain ⟨p, hp⟩ : ∃ p, p = bsT T t + i := ⟨_, rfl⟩
      rw [← hp] at e0 i4 i5
      have e1 : lfT T p = T.2.1 t - i := by unfold lfT; rw [e0]; omega
      have e2 : unT T p = T.2.2 t i := by unfold unT; rw [e0, hp, show bsT T t + i - bsT T t = i by omega]
      rw [w_model_1320 WN, w_m1320_t WN, w_m1320_n WN, w_model_1321 WN, w_m1321_t WN, w_m1321_n WN, w_model_1323 WN, i4, show jset N 2 (X + 233) p t 2 (X + 219) t = T.2.1 t from by rw [jset_a (by omega)]; exact rl]
      have oV : ∀ (k : Nat) (a j : Int), ¬ (k = 2 ∧ (a = X + 233 ∨ a = X + 234)) → jset (jset N 2 (X + 233) p t) 2 (X + 234) p (T.2.1 t - i) k a j = N k a j := fun k a j z => by
        rw [show jset (jset N 2 (X + 233) p t) 2 (X + 234) p (T.2.1 t - i) k a j = jset N 2 (X + 233) p t k a j from if_neg (by omega)]
        exact if_neg (by omega)
      have WV : WSt X (jset (jset N 2 (X + 233) p t) 2 (X + 234) p (T.2.1 t - i)) := WN.keep fun k a j _ _ hk => oV k a j (by omega)
      refine ⟨wn, wn, ⟨rfl, by omega, by omega⟩, wn, wn, wn, ⟨rfl, i1, by omega⟩, by unfold jR; omega, ⟨rfl, by omega, by omega⟩, wn, wn, wn, r_unit WV (RN.kp fun k a j z => oV k a j (by omega)) A i1 i2 j1 (by omega) (fun _ => ?_)⟩
      rw [w_m1323_t WV, w_m1323_n WV, w_model_1324 WV, w_m1324_t WV, w_m1324_n WV, oV 3219 (X + 218) 0 (by omega), i4]
      have wv := w_model_t WV
      obtain ⟨Y, hY⟩ : ∃ Y, Y = jset (jset (jset (jset (jset N 2 (X + 233) p t) 2 (X + 234) p (T.2.1 t - i)) 2 (X + 236) p (T.2.2 t i)) 2 (X + 237) p p) 3219 (X + 218) 0 (p + 1) := ⟨_, rfl⟩
      rw [← hY]
      refine ⟨⟨rfl, by omega, by omega⟩, wv, wv, wv, ⟨rfl, by omega, by omega⟩, wv, by unfold jR; omega, wv, by unfold jR; omega, ⟨rfl, i1, i2, by omega, by omega, i3.trans (fun k a j z1 z2 => ?_), ?_, fun p' p0 p1 => ?_⟩, by omega⟩
      · rw [hY, show jset (jset (jset (jset (jset N 2 (X + 233) p t) 2 (X + 234) p (T.2.1 t - i)) 2 (X + 236) p (T.2.2 t i)) 2 (X + 237) p p) 3219 (X + 218) 0 (p + 1) k a j = jset (jset (jset (jset N 2 (X + 233) p t) 2 (X + 234) p (T.2.1 t - i)) 2 (X + 236) p (T.2.2 t i)) 2 (X + 237) p p k a j from if_neg (by omega), show jset (jset (jset (jset N 2 (X + 233) p t) 2 (X + 234) p (T.2.1 t - i)) 2 (X + 236) p (T.2.2 t i)) 2 (X + 237) p p k a j = jset (jset (jset N 2 (X + 233) p t) 2 (X + 234) p (T.2.1 t - i)) 2 (X + 236) p (T.2.2 t i) k a j from if_neg (by omega), show jset (jset (jset N 2 (X + 233) p t) 2 (X + 234) p (T.2.1 t - i)) 2 (X + 236) p (T.2.2 t i) k a j = jset (jset N 2 (X + 233) p t) 2 (X + 234) p (T.2.1 t - i) k a j from if_neg (by omega)]
        exact oV k a j (by omega)
      · rw [hY, jset_s]; omega
      · by_cases c : p' = p
        · rw [c, e0, e1, e2, hY]
          refine ⟨?_, ?_, ?_, ?_⟩
          · rw [jset_k (by decide), jset_a (by omega), jset_a (by omega), jset_a (by omega), jset_s]
          · rw [jset_k (by decide), jset_a (by omega), jset_a (by omega), jset_s]
          · rw [jset_k (by decide), jset_a (by omega), jset_s]
          · rw [jset_k (by decide), jset_s]
        · have yy : ∀ a, Y 2 a p' = N 2 a p' := fun a => by rw [hY, jset_k (by decide), jset_j c, jset_j c, jset_j c, jset_j c]
          rw [yy, yy, yy, yy]
          exact i5 p' p0 (by omega)
  · rintro v0 rk k N ⟨rfl, i1, i2, i3, i4, i5, S, rfl, i7⟩
    obtain ⟨WN, RN⟩ := rt N i3
    have wn := w_model_t WN
    rw [i4]
    refine ⟨wn, fun q => ⟨⟨rfl, by omega, by omega, i3, rfl, fun p p0 p1 => ⟨(i5 p p0 p1).1, (i5 p p0 p1).2.1⟩, fun lv l0 l1 => ?_⟩, by omega⟩, fun q => ?_⟩
    · have : lv = 0 := by omega
      subst this
      rw [(jsh1 (v := 0) (by omega) (by omega)).2.2.2.2.2 rfl]
      have K := rkp_chg (R := fun p => N 2 (X + 235) p) S (by omega) nb.2 (fun a b0 b1 => i7 a b0 (by omega))
      exact K.c fun p p0 p1 => by rw [show 9600 * (0 : Int) + p = p by omega]
    · have vk := S.2.1 k i1 (by omega)
      have vk1 := vk.1
      have vk2 := vk.2.1
      have cr := @chg_r (unT T) 1 k (N 2 (X + 238)) i1
      have st := @chg_step (unT T) 1 k (N 2 (X + 238)) i1
      have fin : ∀ v, v = chg (unT T) 1 (N 2 (X + 238)) (k + 1) → (X + 218 = X + 218 ∧ 0 ≤ k + 1 ∧ k + 1 ≤ n ∧ Orf X M (jset N 2 (X + 235) (N 2 (X + 238) k) v) ∧ jset N 2 (X + 235) (N 2 (X + 238) k) v 3219 (X + 218) 0 = n ∧ (∀ p, 0 ≤ p → p < n → jset N 2 (X + 235) (N 2 (X + 238) k) v 2 (X + 233) p = txT T p ∧ jset N 2 (X + 235) (N 2 (X + 238) k) v 2 (X + 234) p = lfT T p ∧ jset N 2 (X + 235) (N 2 (X + 238) k) v 2 (X + 236) p = unT T p) ∧ Sq n (lfT T) (unT T) 1 n (jset N 2 (X + 235) (N 2 (X + 238) k) v 2 (X + 238)) ∧ v = chg (unT T) 1 (jset N 2 (X + 235) (N 2 (X + 238) k) v 2 (X + 238)) (k + 1) ∧ ∀ j, 0 ≤ j → j < k + 1 → jset N 2 (X + 235) (N 2 (X + 238) k) v 2 (X + 235) (jset N 2 (X + 235) (N 2 (X + 238) k) v 2 (X + 238) j) = chg (unT T) 1 (jset N 2 (X + 235) (N 2 (X + 238) k) v 2 (X + 238)) (j + 1)) := fun v hv => by
        have e8 : jset N 2 (X + 235) (N 2 (X + 238) k) v 2 (X + 238) = N 2 (X + 238) := funext fun j => jset_a (by omega) _ _
        rw [e8]
        refine ⟨rfl, by omega, by omega, i3.trans (fun q a j z1 z2 => if_neg (by omega)), by rw [jset_k (by decide)]; exact i4, fun p p0 p1 => ?_, S, hv, fun j j0 j1 => ?_⟩
        · rw [jset_a (by omega), jset_a (by omega), jset_a (by omega)]; exact i5 p p0 p1
        · by_cases c : j = k
          · rw [c, jset_s]; exact hv
          · have ne : N 2 (X + 238) j ≠ N 2 (X + 238) k := fun z => by
              rcases S.2.2.2 j k j0 (by omega) (by omega) with y | y
              · rw [z] at y; exact lsh_irr eqh_refl y
              · omega
            rw [jset_j ne]; exact i7 j j0 (by omega)
      rw [w_model_1325 WN, w_m1325_t WN, w_m1325_n WN, w_model_1322 WN, w_m1322_t WN, w_m1322_n WN, w_model_1323 WN, w_m1323_t WN, w_m1323_n WN]
      refine ⟨fun z => ⟨by unfold jR; omega, wn, wn, ⟨rfl, i1, by omega⟩, ⟨rfl, vk1, by omega⟩, by unfold jR; omega, fin _ (by rw [st.1 (Or.inl (by omega))]; omega), by omega⟩, fun z => ?_⟩
      have vp := S.2.1 (k - 1) (by omega) (by omega)
      have vp1 := vp.1
      have vp2 := vp.2.1
      rw [(i5 _ vk1 vk2).2.2, (i5 _ vp1 vp2).2.2]
      refine ⟨wn, wn, ⟨rfl, i1, by omega⟩, ⟨rfl, vk1, by omega⟩, wn, wn, by unfold jR; omega, ⟨rfl, by omega, by omega⟩, ⟨rfl, vp1, by omega⟩, fun e => ⟨by unfold jR; omega, wn, wn, ⟨rfl, i1, by omega⟩, ⟨rfl, vk1, by omega⟩, by unfold jR; omega, fin _ (by rw [st.1 (Or.inr (eqh_one.mpr e))]; omega), by omega⟩, fun e => ⟨by unfold jR; omega, wn, wn, ⟨rfl, i1, by omega⟩, ⟨rfl, vk1, by omega⟩, by unfold jR; omega, fin _ (by rw [st.2 (by omega) (fun y => e (eqh_one.mp y))]), by omega⟩⟩
  · rintro v0 lv N ⟨rfl, i1, i2, i3, i4, i5, i6⟩
    obtain ⟨WN, RN⟩ := rt N i3
    have wn := w_model_t WN
    refine ⟨fun q => h N i3 ⟨by rw [i4, hn], by rw [← hn]; exact i5, fun l l0 l1 => by rw [← hn]; exact i6 l l0 (by omega)⟩, fun q => ⟨by unfold jR; omega, wn, ?_⟩⟩
    have j := jsh1 (v := lv - 1) (by omega) (by omega)
    have e := j.2.2.2.1 (by omega)
    rw [show lv - 1 + 1 = lv by omega] at e
    refine r_bySize (s := jshl 1 lv) (R := fun p => N 2 (X + 235) (9600 * (lv - 1) + p)) WN L i4 (fun p p0 p1 => (i5 p p0 p1).2) ⟨by omega, by omega⟩ rfl (by omega) (by omega) (fun _ _ _ => rfl) (i6 (lv - 1) (by omega) (by omega)) (fun N' k sq o S cs _ => ⟨⟨rfl, i1, by omega, by omega, S.1.1, i3.trans o.orf, by rw [o _ _ _ (by omega)]; exact i4, fun p p0 p1 => ⟨by rw [o _ _ _ (by omega)]; exact (i5 p p0 p1).1, by rw [o _ _ _ (by omega)]; exact (i5 p p0 p1).2⟩, fun l l0 l1 => (i6 l l0 l1).c fun p p0 p1 => o _ _ _ (by omega), sq, S, cs, by unfold chg; rw [cntI_z (by omega)], fun j j0 j1 => by omega⟩, by omega⟩)
  · rintro v0 rk lv K k N ⟨rfl, i1, i2, j1, j2, i3, i4, i5, i6, sq, S, cs, rfl, i7⟩
    obtain ⟨WN, RN⟩ := rt N i3
    have wn := w_model_t WN
    have sk := S.1
    have jl := jsh1 (v := lv) (by omega) (by omega)
    refine ⟨fun q => ⟨by unfold jR; omega, ⟨rfl, by omega, by omega, i3, i4, i5, fun l l0 l1 => ?_⟩, by omega⟩, fun q => ?_⟩
    · by_cases c : l = lv
      · subst c
        exact rkp_chg S (by omega) nb.2 (fun a b0 b1 => i7 a b0 (by omega))
      · exact i6 l l0 (by omega)
    · have vk := S.2.1 k j1 (by omega)
      have vk1 := vk.1
      have vk2 := vk.2.1
      have cr := @chg_r (unT T) (jshl 1 lv) k sq j1
      have st := @chg_step (unT T) (jshl 1 lv) k sq j1
      have ck := cs k j1 (by omega)
      have fin : ∀ v, v = chg (unT T) (jshl 1 lv) sq (k + 1) → (X + 218 = X + 218 ∧ 1 ≤ lv ∧ lv ≤ 7 ∧ 0 ≤ k + 1 ∧ k + 1 ≤ K ∧ Orf X M (jset N 2 (X + 235) (9600 * lv + sq k) v) ∧ jset N 2 (X + 235) (9600 * lv + sq k) v 3219 (X + 218) 0 = n ∧ (∀ p, 0 ≤ p → p < n → jset N 2 (X + 235) (9600 * lv + sq k) v 2 (X + 233) p = txT T p ∧ jset N 2 (X + 235) (9600 * lv + sq k) v 2 (X + 234) p = lfT T p) ∧ (∀ l, 0 ≤ l → l < lv → Rkp n (lfT T) (unT T) (jshl 1 l) (fun p => jset N 2 (X + 235) (9600 * lv + sq k) v 2 (X + 235) (9600 * l + p))) ∧ ∃ sq', Sq n (lfT T) (unT T) (jshl 1 lv) K sq' ∧ (∀ a, 0 ≤ a → a < K → jset N 2 (X + 235) (9600 * lv + sq k) v 2 (X + 237) a = sq' a) ∧ v = chg (unT T) (jshl 1 lv) sq' (k + 1) ∧ ∀ j, 0 ≤ j → j < k + 1 → jset N 2 (X + 235) (9600 * lv + sq k) v 2 (X + 235) (9600 * lv + sq' j) = chg (unT T) (jshl 1 lv) sq' (j + 1)) := fun v hv => by
        refine ⟨rfl, i1, i2, by omega, by omega, i3.trans (fun q a j z1 z2 => if_neg (by omega)), by rw [jset_k (by decide)]; exact i4, fun p p0 p1 => ?_, fun l l0 l1 => (i6 l l0 l1).c fun p p0 p1 => jset_j (by omega) _ _, sq, S, fun a b0 b1 => by rw [jset_a (by omega)]; exact cs a b0 b1, hv, fun j j0 j1 => ?_⟩
        · rw [jset_a (by omega), jset_a (by omega)]; exact i5 p p0 p1
        · by_cases c : j = k
          · rw [c, jset_s]; exact hv
          · have ne : sq j ≠ sq k := fun z => by
              rcases S.2.2.2 j k j0 (by omega) (by omega) with y | y
              · rw [z] at y; exact lsh_irr eqh_refl y
              · omega
            rw [jset_j (by omega)]; exact i7 j j0 (by omega)
      have t1 : N 0 (N 1324 (X + 218) 0) 0 = 1 := by rw [w_model_1324 WN]; exact w_m1324_t WN
      have t2 : N 1 (N 1324 (X + 218) 0) 0 = 9600 := by rw [w_model_1324 WN]; exact w_m1324_n WN
      have t3 : N 2 (N 1324 (X + 218) 0) k = sq k := by rw [w_model_1324 WN]; exact ck
      have t4 : N 0 (N 1322 (X + 218) 0) 0 = 1 := by rw [w_model_1322 WN]; exact w_m1322_t WN
      have t5 : N 1 (N 1322 (X + 218) 0) 0 = 76800 := by rw [w_model_1322 WN]; exact w_m1322_n WN
      have tl : ∀ v, jR v → v = chg (unT T) (jshl 1 lv) sq (k + 1) → jR v ∧ N 0 (X + 218) 0 = 22 ∧ jR (9600 * lv) ∧ N 0 (X + 218) 0 = 22 ∧ (N 0 (N 1324 (X + 218) 0) 0 = 1 ∧ 0 ≤ k ∧ k < N 1 (N 1324 (X + 218) 0) 0) ∧ jR (9600 * lv + N 2 (N 1324 (X + 218) 0) k) ∧ (N 0 (N 1322 (X + 218) 0) 0 = 1 ∧ 0 ≤ 9600 * lv + N 2 (N 1324 (X + 218) 0) k ∧ 9600 * lv + N 2 (N 1324 (X + 218) 0) k < N 1 (N 1322 (X + 218) 0) 0) ∧ jR (k + 1) := fun v jv hv => by
        rw [t3]
        exact ⟨jv, wn, by unfold jR; omega, wn, ⟨t1, j1, by omega⟩, by unfold jR; omega, ⟨t4, by omega, by omega⟩, by unfold jR; omega⟩
      have fin' : ∀ v, v = chg (unT T) (jshl 1 lv) sq (k + 1) → _ := fun v hv => fin v hv
      have em : jset N 2 (N 1322 (X + 218) 0) (9600 * lv + N 2 (N 1324 (X + 218) 0) k) = jset N 2 (X + 235) (9600 * lv + sq k) := by rw [t3, w_model_1322 WN]
      refine ⟨fun z => ?_, fun z => ⟨wn, ⟨t1, j1, by omega⟩, wn, by unfold jR; omega, ⟨t1, by omega, by omega⟩, by unfold jR; omega, wn, ?_⟩⟩
      · have e := st.1 (Or.inl (by omega))
        obtain ⟨b1, b2, b3, b4, b5, b6, b7, b8⟩ := tl (chg (unT T) (jshl 1 lv) sq k + 0) (by unfold jR; omega) (by omega)
        refine ⟨b1, b2, b3, b4, b5, b6, b7, b8, ?_, by omega⟩
        rw [em]
        exact fin _ (by omega)
      · have vp := S.2.1 (k - 1) (by omega) (by omega)
        have cp := cs (k - 1) (by omega) (by omega)
        have jp := jsh1 (v := lv - 1) (by omega) (by omega)
        have ep := jp.2.2.2.1 (by omega)
        rw [show lv - 1 + 1 = lv by omega] at ep
        have t6 : N 2 (N 1324 (X + 218) 0) (k - 1) = sq (k - 1) := by rw [w_model_1324 WN]; exact cp
        have call : ∀ Q' : Int → JM → Prop, (eqh (unT T) (jshl 1 lv) (sq k) (sq (k - 1)) → Q' 1 N) → (¬ eqh (unT T) (jshl 1 lv) (sq k) (sq (k - 1)) → Q' 0 N) → Runs G 220 0 0 [(1, X + 218), (0, N 2 (N 1324 (X + 218) 0) k), (0, N 2 (N 1324 (X + 218) 0) (k - 1)), (0, jshl 1 lv), (0, lv - 1)] N Q' := fun Q' q1 q0 => by
          rw [t3, t6]
          exact r_same (R := fun p => N 2 (X + 235) (9600 * (lv - 1) + p)) WN L ⟨by omega, by omega⟩ rfl (by omega) (by omega) (fun _ _ _ => rfl) (i6 (lv - 1) (by omega) (by omega)) vk vp q1 q0
        refine call _ (fun e _ => ⟨fun _ => ?_, fun y => absurd (by decide) y⟩) (fun e _ => ⟨fun y => absurd rfl y, fun _ => ?_⟩)
        · have e' := st.1 (Or.inr e)
          obtain ⟨b1, b2, b3, b4, b5, b6, b7, b8⟩ := tl (chg (unT T) (jshl 1 lv) sq k + 0) (by unfold jR; omega) (by omega)
          refine ⟨b1, b2, b3, b4, b5, b6, b7, b8, ?_, by omega⟩
          rw [em]
          exact fin _ (by omega)
        · have e' := st.2 (by omega) e
          obtain ⟨b1, b2, b3, b4, b5, b6, b7, b8⟩ := tl (chg (unT T) (jshl 1 lv) sq k + 1) (by unfold jR; omega) (by omega)
          refine ⟨b1, b2, b3, b4, b5, b6, b7, b8, ?_, by omega⟩
          rw [em]
          exact fin _ (by omega)
  · have z : bsT T 0 = 0 := smI_z (by omega)
    refine ⟨w_model_t W, rfl, by omega, a1, fun q a j z1 z2 => if_neg (by omega), by rw [jset_s, z], fun p p0 p1 => by rw [z] at p1; omega⟩
end OM4
