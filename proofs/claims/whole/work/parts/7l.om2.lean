/-! what is in many texts: the reference's order of places -/
def Osf (X : Int) (M M' : JM) : Prop := ∀ (q : Nat) (a j : Int), ¬ (q = 2 ∧ X + 236 ≤ a ∧ a ≤ X + 239) → M' q a j = M q a j
/-- ranks of the texts of h units at places -/
def Rkp (n : Int) (lf U : Int → Int) (h : Int) (R : Int → Int) : Prop := (∀ p q, vld n lf h p → vld n lf h q → (lsh U h p q → R p < R q) ∧ (eqh U h p q → R p = R q)) ∧ ∀ p, vld n lf h p → 0 ≤ R p ∧ R p < 9600
section OM2
variable {n : Int} {tx lf U : Int → Int}
theorem Rkp.eq {h p q : Int} {R : Int → Int} (K : Rkp n lf U h R) (h0 : 0 ≤ h) (hp : vld n lf h p) (hq : vld n lf h q) : R p = R q ↔ eqh U h p q := by
  refine ⟨fun e => ?_, (K.1 p q hp hq).2⟩
  rcases lsh_triI (F := U) (i := p) (j := q) h0 with z | z | z
  · have := (K.1 p q hp hq).1 z; omega
  · exact z
  · have := (K.1 q p hq hp).1 z; omega
theorem vld_2 {h s p : Int} (L : Pls n tx lf U) (h0 : 1 ≤ h) (h1 : h ≤ s) (hp : vld n lf s p) : vld n lf h p ∧ vld n lf h (p + (s - h)) := by
  obtain ⟨p0, p1, p2⟩ := hp
  have a := L.2.2.1 p (s - h) p0 p1 (by omega) (by omega)
  have b := (L.2.1 p p0 p1).1
  exact ⟨⟨p0, p1, by omega⟩, by omega, by omega, by rw [a.1]; omega⟩
/-- ordered by both ranks, then by place -/
theorem two_keys {h s x y : Int} {R : Int → Int} (L : Pls n tx lf U) (K : Rkp n lf U h R) (h0 : 1 ≤ h) (h1 : h ≤ s) (h2 : s ≤ 2 * h) (vx : vld n lf s x) (vy : vld n lf s y) (o : R x < R y ∨ (R x = R y ∧ (R (x + (s - h)) < R (y + (s - h)) ∨ (R (x + (s - h)) = R (y + (s - h)) ∧ x < y)))) : lsh U s x y ∨ (eqh U s x y ∧ x < y) := by
  have a := vld_2 L h0 h1 vx
  have b := vld_2 L h0 h1 vy
  rcases lsh_triI (F := U) (i := x) (j := y) (show 0 ≤ s by omega) with z | z | z
  · exact Or.inl z
  · have e := (eqh_w (by omega) h1 h2).mp z
    have e1 := (K.1 x y a.1 b.1).2 e.1
    have e2 := (K.1 _ _ a.2 b.2).2 e.2
    exact Or.inr ⟨z, by omega⟩
  · exfalso
    rcases lsh_w (by omega) h1 h2 z with e | e
    · have := (K.1 y x b.1 a.1).1 e; omega
    · have e1 := (K.1 y x b.1 a.1).2 e.1
      have e2 := (K.1 _ _ b.2 a.2).1 e.2
      omega
end OM2
section OM2R
variable {G : JG} {X : Int} {Q : Int → JM → Prop} {M : JM} {n : Int} {tx lf U : Int → Int}
theorem Osf.w {M' : JM} (o : Osf X M M') (W : WSt X M) : WSt X M' := W.keep fun k a j _ _ hk => o k a j (by omega)
theorem Osf.trans {M' M'' : JM} (h : Osf X M M') (g : Osf X M' M'') : Osf X M M'' := fun k a j q => (g k a j q).trans (h k a j q)
theorem r_same {p q s lv h : Int} {R : Int → Int} (W : WSt X M) (L : Pls n tx lf U) (hv : 0 ≤ lv ∧ lv ≤ 7) (hh : jshl 1 lv = h) (h1 : h ≤ s) (h2 : s ≤ 2 * h) (hR : ∀ p, 0 ≤ p → p < n → M 2 (X + 235) (9600 * lv + p) = R p) (K : Rkp n lf U h R) (vp : vld n lf s p) (vq : vld n lf s q) (y1 : eqh U s p q → Q 1 M) (y0 : ¬ eqh U s p q → Q 0 M) : Runs G 220 0 0 [(1, X + 218), (0, p), (0, q), (0, s), (0, lv)] M Q := by
  have j := jsh1 hv.1 hv.2
  rw [hh] at j
  have a := vld_2 L j.1 h1 vp
  have b := vld_2 L j.1 h1 vq
  have nb := L.1
  obtain ⟨p0, p1, p2⟩ := vp
  obtain ⟨q0, q1, q2⟩ := vq
  have lp := (L.2.1 p p0 p1).1
  have a2 := a.2
  have b2 := b.2
  unfold vld at a2 b2
  have ew := eqh_w (F := U) (i := p) (j := q) (show 0 ≤ h by omega) h1 h2
  have k1 := K.eq (show 0 ≤ h by omega) a.1 b.1
  have k2 := K.eq (show 0 ≤ h by omega) a.2 b.2
  have wt := w_model_t W
  refine rn_X12_isSame _ _ _ _ _ M (sg_X12_isSame_0 _ _ _ _ _ M ?_)
  rw [hh, w_model_1322 W, w_m1322_t W, w_m1322_n W, hR p p0 p1, hR q q0 q1, show 9600 * lv + p + (s - h) = 9600 * lv + (p + (s - h)) by omega, show 9600 * lv + q + (s - h) = 9600 * lv + (q + (s - h)) by omega, hR (p + (s - h)) (by omega) (by omega), hR (q + (s - h)) (by omega) (by omega)]
  refine ⟨by unfold jR; omega, by unfold jR; omega, wt, by unfold jR; omega, ⟨rfl, by omega, by omega⟩, wt, by unfold jR; omega, ⟨rfl, by omega, by omega⟩, fun ne => ⟨Or.inl rfl, y0 (fun z => ne (k1.mpr (ew.mp z).1))⟩, fun ne => ⟨wt, by unfold jR; omega, by unfold jR; omega, ⟨rfl, by omega, by omega⟩, wt, by unfold jR; omega, by unfold jR; omega, ⟨rfl, by omega, by omega⟩, fun ne2 => ⟨Or.inl rfl, y0 (fun z => ne2 (k2.mpr (ew.mp z).2))⟩, fun ne2 => ⟨Or.inr rfl, y1 (ew.mpr ⟨k1.mp (Classical.not_not.mp ne), k2.mp (Classical.not_not.mp ne2)⟩)⟩⟩⟩
set_option maxHeartbeats 1000000 in
theorem r_bySize {s lv h : Int} {R : Int → Int} (W : WSt X M) (L : Pls n tx lf U) (hn : M 3219 (X + 218) 0 = n) (hl : ∀ p, 0 ≤ p → p < n → M 2 (X + 234) p = lf p) (hv : 0 ≤ lv ∧ lv ≤ 7) (hh : jshl 1 lv = h) (h1 : h ≤ s) (h2 : s ≤ 2 * h) (hR : ∀ p, 0 ≤ p → p < n → M 2 (X + 235) (9600 * lv + p) = R p) (K : Rkp n lf U h R) (h : ∀ M' k sq, Osf X M M' → Sq n lf U s k sq → (∀ a, 0 ≤ a → a < k → M' 2 (X + 237) a = sq a) → Q k M') : Runs G 219 0 0 [(1, X + 218), (0, s), (0, lv)] M Q := by
  have j := jsh1 hv.1 hv.2
  rw [hh] at j
  have nb := L.1
  rename_i h'
  obtain ⟨V, hV⟩ : ∃ V, V = vld n lf s := ⟨_, rfl⟩
  obtain ⟨kk, hkk⟩ : ∃ kk, kk = cntI V n := ⟨_, rfl⟩
  have kr := @cntI_r V n nb.1
  rw [← hkk] at kr
  -- an order of the places by themselves
  have ord : ∀ A0 : Int → Int, (∀ q, V q → A0 (cntI V q) = q) → (∀ a, 0 ≤ a → a < kk → V (A0 a) ∧ cntI V (A0 a) = a) ∧ ∀ a b, 0 ≤ a → a < b → b < kk → A0 a < A0 b := fun A0 hA => by
    have b1 : ∀ a, 0 ≤ a → a < kk → V (A0 a) ∧ cntI V (A0 a) = a := fun a a0 a1 => by
      rw [hkk] at a1
      have := cnt_hit (p := V) n.toNat a a0 (by rw [show (n.toNat : Int) = n by omega]; exact a1)
      obtain ⟨r, r0, r1, r2, r3⟩ := this
      have e := hA r r2
      rw [r3] at e
      rw [e]; exact ⟨r2, r3⟩
    refine ⟨b1, fun a b a0 ab b1' => ?_⟩
    have x := b1 a a0 (by omega)
    have y := b1 b (by omega) b1'
    rcases Int.lt_or_le (A0 a) (A0 b) with z | z
    · exact z
    · have y0 := y.1
      rw [hV] at y0
      have := cntI_mono (p := V) y0.1 z
      omega
  have pv : ∀ p, V p → vld n lf s p := fun p z => by rw [hV] at z; exact z
  have p2 : ∀ p, V p → (0 ≤ p ∧ p < n) ∧ (0 ≤ p + (s - h') ∧ p + (s - h') < n) ∧ (0 ≤ R p ∧ R p < 9600) ∧ 0 ≤ R (p + (s - h')) ∧ R (p + (s - h')) < 9600 := fun p z => by
    have a := pv p z
    have b := vld_2 L j.1 h1 a
    exact ⟨⟨a.1, a.2.1⟩, ⟨b.2.1, b.2.2.1⟩, K.2 p b.1, K.2 _ b.2⟩
  refine lp_X12_bySize
    (fun v0 v1 v2 v3 v4 N => X + 218 = v0 ∧ s = v1 ∧ lv = v2 ∧ 0 ≤ v4 ∧ v4 ≤ n ∧ v3 = cntI V v4 ∧ Osf X M N ∧ ∀ q, V q → q < v4 → N 2 (X + 237) (cntI V q) = q) (fun _ _ _ _ v4 => (100000 - v4).toNat)
    (fun v0 v3 v4 v5 v6 N => X + 218 = v0 ∧ kk = v3 ∧ 9600 * lv = v4 ∧ s - h' = v5 ∧ 0 ≤ v6 ∧ v6 ≤ kk ∧ Osf X M N ∧ (∀ q, V q → N 2 (X + 237) (cntI V q) = q) ∧ ∀ a, 0 ≤ a → a < v6 → N 2 (X + 236) (N 2 (X + 237) a) = R (N 2 (X + 237) a + (s - h'))) (fun _ _ _ _ v6 => (80000 - v6).toNat)
    (fun v0 v3 v4 v6 N => X + 218 = v0 ∧ kk = v3 ∧ 9600 * lv = v4 ∧ 0 ≤ v6 ∧ v6 ≤ kk ∧ Osf X M N ∧ ∃ A0 : Int → Int, (∀ q, V q → A0 (cntI V q) = q) ∧ (∀ a, 0 ≤ a → a < kk → N 2 (X + 238) (psn kk (fun a => R (A0 a + (s - h'))) a) = A0 a) ∧ ∀ a, 0 ≤ a → a < v6 → N 2 (X + 236) (N 2 (X + 238) a) = R (N 2 (X + 238) a)) (fun _ _ _ v6 => (60000 - v6).toNat) ?_ ?_ ?_ _ _ _ M ⟨rfl, rfl, rfl, by omega, nb.1, by rw [cntI_z (by omega)], fun _ _ _ _ => rfl, fun q z y => by have := (p2 q z).1; omega⟩
  · rintro v0 v1 v2 v3 v4 N ⟨rfl, rfl, rfl, i1, i2, rfl, i4, i5⟩
    have WN := i4.w W
    have wn := w_model_t WN
    have cr := @cntI_r V v4 i1
    rw [i4 3219 (X + 218) 0 (by omega), hn, hh]
    refine ⟨wn, fun q => ⟨by unfold jR; omega, by unfold jR; omega, ⟨rfl, ?_, rfl, rfl, by omega, kr.1, i4, fun q' z => i5 q' z (by have := (p2 q' z).1; omega), fun a a0 a1 => by omega⟩, by omega⟩, fun q => ?_⟩
    · rw [hkk, show v4 = n by omega]
    · rw [w_model_1321 WN, w_m1321_t WN, w_m1321_n WN, i4 2 (X + 234) v4 (by omega), hl v4 i1 (by omega), w_model_1324 WN, w_m1324_t WN, w_m1324_n WN]
      refine ⟨wn, ⟨rfl, i1, by omega⟩, fun lt => ⟨by unfold jR; omega, ⟨rfl, rfl, rfl, by omega, by omega, (cntI_f i1 (fun z => by have := (pv v4 z).2.2; omega)).symm, i4, fun q' z y => ?_⟩, by omega⟩, fun lt => ⟨wn, ⟨rfl, cr.1, by omega⟩, by unfold jR; omega, by unfold jR; omega, ⟨rfl, rfl, rfl, by omega, by omega, (cntI_t i1 (by rw [hV]; exact ⟨i1, by omega, by omega⟩)).symm, fun q a j z => ?_, fun q' z y => ?_⟩, by omega⟩⟩
      · by_cases c : q' = v4
        · rw [c] at z; have := (pv v4 z).2.2; omega
        · exact i5 q' z (by omega)
      · rw [show jset N 2 (X + 237) (cntI V v4) v4 q a j = N q a j from if_neg (by omega)]; exact i4 q a j z
      · by_cases c : q' = v4
        · rw [c, jset_s]
        · have lt' : cntI V q' + 1 ≤ cntI V v4 := cntI_step (p2 q' z).1.1 (by omega) z
          rw [jset_j (by omega)]; exact i5 q' z (by omega)
  · rintro v0 v3 v4 v5 v6 N ⟨rfl, rfl, rfl, rfl, i1, i2, i4, i5, i6⟩
    have WN := i4.w W
    have wn := w_model_t WN
    obtain ⟨o1, o2⟩ := ord _ i5
    refine ⟨fun q => ⟨wn, wn, wn, ?_⟩, fun q => ?_⟩
    · rw [w_model_1324 WN, w_model_1325 WN]
      refine r_byKey (g := fun a => R (N 2 (X + 237) a + (s - h'))) WN (Or.inl rfl) (Or.inr rfl) (by omega) ⟨kr.1, by omega⟩ ⟨by omega, by omega⟩ (fun a a0 a1 => by have := (p2 _ (o1 a a0 a1).1).1; omega) (fun a a0 a1 => ?_) (fun N' o' ps _ => ⟨⟨rfl, rfl, rfl, by omega, kr.1, i4.trans (fun q a j z => o' q a j (by omega)), N 2 (X + 237), i5, ps, fun a a0 a1 => by omega⟩, by omega⟩)
      have := (p2 _ (o1 a a0 a1).1).2.2.2
      exact ⟨i6 a a0 (by omega), this.1, this.2⟩
    · have pk := p2 _ (o1 v6 i1 (by omega)).1
      rw [w_model_1323 WN, w_m1323_t WN, w_m1323_n WN, w_model_1324 WN, w_m1324_t WN, w_m1324_n WN, w_model_1322 WN, w_m1322_t WN, w_m1322_n WN, show 9600 * lv + N 2 (X + 237) v6 + (s - h') = 9600 * lv + (N 2 (X + 237) v6 + (s - h')) by omega, i4 2 (X + 235) _ (by omega), hR _ pk.2.1.1 pk.2.1.2]
      refine ⟨wn, wn, ⟨rfl, i1, by omega⟩, wn, wn, ⟨rfl, i1, by omega⟩, by unfold jR; omega, by unfold jR; omega, ⟨rfl, by omega, by omega⟩, ⟨rfl, by omega, by omega⟩, by unfold jR; omega, ⟨rfl, rfl, rfl, rfl, by omega, by omega, fun q a j z => ?_, fun q' z => ?_, fun a a0 a1 => ?_⟩, by omega⟩
      · rw [show jset N 2 (X + 236) (N 2 (X + 237) v6) (R (N 2 (X + 237) v6 + (s - h'))) q a j = N q a j from if_neg (by omega)]; exact i4 q a j z
      · rw [jset_a (by omega)]; exact i5 q' z
      · rw [jset_a (show X + 237 ≠ X + 236 by omega)]
        by_cases c : a = v6
        · rw [c, jset_s]
        · have := o2 a v6 a0 (by omega) (by omega)
          rw [jset_j (by omega)]; exact i6 a a0 (by omega)
  · rintro v0 v3 v4 v6 N ⟨rfl, rfl, rfl, i1, i2, i4, A0, i5, i6, i7⟩
    have WN := i4.w W
    have wn := w_model_t WN
    obtain ⟨o1, o2⟩ := ord _ i5
    have pp := psn_prm (n := kk) (g := fun a => R (A0 a + (s - h'))) kr.1
    have bb : ∀ b, 0 ≤ b → b < kk → ∃ a, 0 ≤ a ∧ a < kk ∧ psn kk (fun a => R (A0 a + (s - h'))) a = b ∧ N 2 (X + 238) b = A0 a := fun b b0 b1 => by
      obtain ⟨a, a0, a1, a2⟩ := pp.2.2 b b0 b1
      have e := i6 a a0 a1
      rw [a2] at e
      exact ⟨a, a0, a1, a2, e⟩
    have bv : ∀ b, 0 ≤ b → b < kk → V (N 2 (X + 238) b) := fun b b0 b1 => by
      obtain ⟨a, a0, a1, a2, a3⟩ := bb b b0 b1
      rw [a3]; exact (o1 a a0 a1).1
    refine ⟨fun q => ⟨wn, wn, wn, ?_⟩, fun q => ?_⟩
    · rw [w_model_1324 WN, w_model_1325 WN]
      refine r_byKey (g := fun a => R (N 2 (X + 238) a)) WN (Or.inr rfl) (Or.inl rfl) (by omega) ⟨kr.1, by omega⟩ ⟨by omega, by omega⟩ (fun a a0 a1 => by have := (p2 _ (bv a a0 a1)).1; omega) (fun a a0 a1 => ?_) (fun N' o' ps _ => ?_)
      · have := (p2 _ (bv a a0 a1)).2.2.1
        exact ⟨i7 a a0 (by omega), this.1, this.2⟩
      · have pq := psn_prm (n := kk) (g := fun a => R (N 2 (X + 238) a)) kr.1
        refine h N' kk (N' 2 (X + 237)) (i4.trans fun q a j z => o' q a j (by omega)) ⟨kr, fun a a0 a1 => ?_, fun p vp => ?_, fun a b a0 ab b1 => ?_⟩ (fun _ _ _ => rfl)
        · obtain ⟨r, r0, r1, r2⟩ := pq.2.2 a a0 a1
          have e := ps r r0 r1
          rw [r2] at e
          rw [e]; exact pv _ (bv r r0 r1)
        · have vp' : V p := by rw [hV]; exact vp
          have c1 : 0 ≤ cntI V p ∧ cntI V p < kk := by
            have a := (cntI_r (p := V) vp.1).1
            have b := cntI_step (p := V) vp.1 vp.2.1 vp'
            omega
          have e1 := i6 (cntI V p) c1.1 c1.2
          rw [i5 p vp'] at e1
          have r1 := pp.1 (cntI V p) c1.1 c1.2
          have e2 := ps _ r1.1 r1.2
          rw [e1] at e2
          have r2 := pq.1 _ r1.1 r1.2
          exact ⟨_, r2.1, r2.2, e2⟩
        · obtain ⟨r, q', r0, r1, q0, q1, er, eq', o⟩ := put_ord (od := N' 2 (X + 237)) (sp := N 2 (X + 238)) (g := fun a => R (N 2 (X + 238) a)) kr.1 ps a0 ab b1
          rw [er, eq']
          refine two_keys L K j.1 h1 h2 (pv _ (bv r r0 r1)) (pv _ (bv q' q0 q1)) ?_
          rcases o with o | ⟨o, rq⟩
          · exact Or.inl o
          · refine Or.inr ⟨o, ?_⟩
            obtain ⟨x, y, x0, x1, y0, y1, ex, ey, o'⟩ := put_ord (od := N 2 (X + 238)) (sp := A0) (g := fun a => R (A0 a + (s - h'))) kr.1 i6 r0 rq q1
            rw [ex, ey]
            rcases o' with o' | ⟨o', xy⟩
            · exact Or.inl o'
            · exact Or.inr ⟨o', o2 x y x0 xy y1⟩
    · have pk := p2 _ (bv v6 i1 (by omega))
      rw [w_model_1323 WN, w_m1323_t WN, w_m1323_n WN, w_model_1325 WN, w_m1325_t WN, w_m1325_n WN, w_model_1322 WN, w_m1322_t WN, w_m1322_n WN, i4 2 (X + 235) _ (by omega), hR _ pk.1.1 pk.1.2]
      refine ⟨wn, wn, ⟨rfl, i1, by omega⟩, wn, wn, ⟨rfl, i1, by omega⟩, by unfold jR; omega, ⟨rfl, by omega, by omega⟩, ⟨rfl, by omega, by omega⟩, by unfold jR; omega, ⟨rfl, rfl, rfl, by omega, by omega, fun q a j z => ?_, A0, i5, fun a a0 a1 => ?_, fun a a0 a1 => ?_⟩, by omega⟩
      · rw [show jset N 2 (X + 236) (N 2 (X + 238) v6) (R (N 2 (X + 238) v6)) q a j = N q a j from if_neg (by omega)]; exact i4 q a j z
      · rw [jset_a (by omega)]; exact i6 a a0 a1
      · rw [jset_a (show X + 238 ≠ X + 236 by omega)]
        by_cases c : a = v6
        · rw [c, jset_s]
        · have ne : N 2 (X + 238) a ≠ N 2 (X + 238) v6 := fun e => by
            obtain ⟨x, x0, x1, x2, x3⟩ := bb a a0 (by omega)
            obtain ⟨y, y0, y1, y2, y3⟩ := bb v6 i1 (by omega)
            rw [x3, y3] at e
            have cx := (o1 x x0 x1).2
            have cy := (o1 y y0 y1).2
            rw [e, cy] at cx
            rw [cx] at y2
            omega
          rw [jset_j ne]; exact i7 a a0 (by omega)
end OM2R
