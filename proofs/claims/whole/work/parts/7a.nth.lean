/-! step: nthPart -/
theorem smI_mono {g : Int → Int} {a b : Int} (h0 : 0 ≤ a) (h1 : a ≤ b) (h : ∀ i, a ≤ i → i < b → 0 ≤ g i) : smI g a ≤ smI g b := by
  obtain ⟨k, hk⟩ := Int.eq_ofNat_of_zero_le (show 0 ≤ b - a by omega)
  have e : b = a + k := by omega
  subst e
  clear hk h1
  induction k with
  | zero => rw [show a + ((0 : Nat) : Int) = a by omega]; exact Int.le_refl _
  | succ k ih =>
    have x := ih (fun i i0 i1 => h i i0 (by omega))
    have y := h (a + k) (by omega) (by omega)
    rw [show a + ((k + 1 : Nat) : Int) = a + k + 1 by omega, smI_s (by omega)]
    omega
/-- part k of all different ones stands at the suffix of rank r -/
def Nth (n : Int) (f : Int → Int) (k r : Int) : Prop := 0 ≤ r ∧ r < n ∧ 0 ≤ k - smI (frs n f) r ∧ k - smI (frs n f) r < frs n f r
theorem frs_r {n r : Int} {f : Int → Int} (hf : ∀ k, 0 ≤ k → k < n → 0 ≤ f k) (r0 : 0 ≤ r) (r1 : r < n) : 0 ≤ frs n f r ∧ frs n f r ≤ n := by
  have a := odr_ok hf r0 r1
  have b := shr_r hf r0 r1
  unfold frs
  omega
theorem Nth_uniq {n k r q : Int} {f : Int → Int} (hf : ∀ k, 0 ≤ k → k < n → 0 ≤ f k) (h : Nth n f k r) (h' : Nth n f k q) : r = q := by
  obtain ⟨a1, a2, a3, a4⟩ := h
  obtain ⟨b1, b2, b3, b4⟩ := h'
  rcases Int.lt_trichotomy r q with e | e | e
  · have := smI_mono (g := frs n f) (a := r + 1) (b := q) (by omega) (by omega) (fun i i0 i1 => (frs_r hf (by omega) (by omega)).1)
    rw [smI_s a1] at this; omega
  · exact e
  · have := smI_mono (g := frs n f) (a := q + 1) (b := r) (by omega) (by omega) (fun i i0 i1 => (frs_r hf (by omega) (by omega)).1)
    rw [smI_s b1] at this; omega
section NTH
variable {G : JG} {X : Int}
theorem c_choose {Q : Int → JM → Prop} {M : JM} {L k : Int} {f : Int → Int} (S : Sx M (X + 144) 240) (hs : M 2810 (X + 144) 0 = L) (hL : 0 ≤ L ∧ L ≤ 240) (hf : ∀ k, 0 ≤ k → k < L → 0 ≤ f k) (so : SOk M (X + 150) (X + 151) (X + 154) L f) (hk : jR k) (h1 : ∀ r M', Nth L f k r → (∀ (q : Nat) (a j : Int), ¬ (a = X + 144 ∧ (q = 2813 ∨ q = 2814)) → M' q a j = M q a j) → M' 2813 (X + 144) 0 = odr L f r → M' 2814 (X + 144) 0 = odr L f r + shr L f r + (k - smI (frs L f) r) + 1 → Q 1 M') (h0 : (¬ ∃ r, Nth L f k r) → Q 0 M) : Runs G 75 0 0 [(1, X + 144), (0, k)] M Q := by
  refine lp_X8_choosePart (fun v0 v2 v3 N => M = N ∧ X + 144 = v0 ∧ v2 = k - smI (frs L f) v3 ∧ 0 ≤ v3 ∧ v3 ≤ L ∧ 0 ≤ smI (frs L f) v3 ∧ smI (frs L f) v3 ≤ 240 * v3 ∧ (1 ≤ v3 → 0 ≤ v2) ∧ ∀ r, 0 ≤ r → r < v3 → ¬ Nth L f k r) (fun _ _ v3 => (1000 - v3).toNat) ?_ _ _ M ⟨rfl, rfl, by rw [smI_z (by omega)]; omega, by omega, by omega, by rw [smI_z (by omega)]; omega, by rw [smI_z (by omega)]; omega, fun z => by omega, fun r r0 r1 => by omega⟩
  rintro v0 v2 v3 N ⟨rfl, rfl, rfl, i1, i2, i3, i4, i5, i6⟩
  rw [hs]
  unfold jR at hk
  refine ⟨S.tt, fun q => ⟨Or.inl rfl, h0 (fun ⟨r, z⟩ => i6 r z.1 (by have := z.2.1; omega) z)⟩, fun q => ⟨fun q2 => ⟨Or.inl rfl, h0 (fun ⟨r, z⟩ => ?_)⟩, fun q2 => ⟨S.tt, c_fresh S hs hL hf so i1 (by omega) (fun _ => ⟨fun le => ?_, fun le => ?_⟩)⟩⟩⟩
  · have v0 : v3 = 0 := by omega
    have := smI_mono (g := frs L f) (a := 0) (b := r) (by omega) z.1 (fun i i0 i1 => (frs_r hf (by omega) (by have := z.2.1; omega)).1)
    rw [smI_z (by omega)] at this
    rw [v0, smI_z (by omega)] at q2
    have := z.2.2.1
    omega
  · have fr := frs_r hf i1 (show v3 < L by omega)
    have ss : smI (frs L f) (v3 + 1) = smI (frs L f) v3 + frs L f v3 := smI_s i1
    refine ⟨by unfold jR; omega, by unfold jR; omega, ⟨rfl, rfl, by omega, by omega, by omega, by omega, by omega, fun _ => by omega, fun r r0 r1 z => ?_⟩, by omega⟩
    by_cases c : r = v3
    · rw [c] at z; have := z.2.2.2; omega
    · exact i6 r r0 (by omega) z
  · have fr := frs_r hf i1 (show v3 < L by omega)
    have a := odr_ok hf i1 (show v3 < L by omega)
    have b := shr_r hf i1 (show v3 < L by omega)
    have d : frs L f v3 = L - odr L f v3 - shr L f v3 := rfl
    rw [S.f5, S.f9, S.t6, S.n6, S.t10, S.n10, show X + 144 + 6 = X + 150 by omega, show X + 144 + 10 = X + 154 by omega, od_eq (od := M 2 (X + 150)) hf so.2.1 i1 (by omega), sh_eq (od := M 2 (X + 150)) (sh := M 2 (X + 154)) hf so.2.1 so.2.2 i1 (by omega), jset_s]
    refine ⟨S.tt, ⟨rfl, i1, by omega⟩, S.tt, S.tt, S.tt, ⟨rfl, i1, by omega⟩, by unfold jR; omega, by unfold jR; omega, by unfold jR; omega, S.tt, Or.inr rfl, h1 v3 _ ⟨i1, by omega, by omega, by omega⟩ (fun q a j z => ?_) ?_ jset_s⟩
    · rw [show jset (jset M 2813 (X + 144) 0 (odr L f v3)) 2814 (X + 144) 0 _ q a j = _ from if_neg (by omega)]
      exact if_neg (by omega)
    · rw [jset_k (by decide), jset_s]
set_option maxHeartbeats 1000000 in
theorem st_nthPart (t k : Int) : JSt (IV X) 3072 G X 147 238 [(0, t), (0, k)] := mk_stp fun n M T K P D C H A hX hn0 hn => by
  have a1 := A.1.1
  have a2 := A.1.2.1
  by_cases ht : 0 ≤ t ∧ t < T.1
  · obtain ⟨u1, u2, u3⟩ := A.1.2.2 t ht.1 ht.2
    obtain ⟨L, hL⟩ : ∃ L, L = T.2.1 t := ⟨_, rfl⟩
    obtain ⟨f, hf⟩ : ∃ f, f = T.2.2 t := ⟨_, rfl⟩
    rw [← hL] at u1 u2
    rw [← hL, ← hf] at u3
    have hf0 : ∀ k, 0 ≤ k → k < L → 0 ≤ f k := fun k k0 k1 => (u3 k k0 k1).1
    by_cases hm : T.1 < 40
    · rcases Classical.em (∃ r, Nth L f k r) with hk | hk
      · obtain ⟨r, hr⟩ := hk
        obtain ⟨r0, r1, r2, r3⟩ := id hr
        have oa := odr_ok hf0 r0 r1
        have ob := shr_r hf0 r0 r1
        have od : frs L f r = L - odr L f r - shr L f r := rfl
        obtain ⟨o, ho⟩ : ∃ o, o = odr L f r := ⟨_, rfl⟩
        obtain ⟨e, he⟩ : ∃ e, e = odr L f r + shr L f r + (k - smI (frs L f) r) + 1 := ⟨_, rfl⟩
        have oe : o ≤ e ∧ e ≤ L := by omega
        refine mk_yes (r := T.1) (T' := atx (aopen T) T.1 (e - o) (fun i => f (o + i))) (K' := kpush K T.1 1 0 (T.2.2 T.1)) ⟨hn0, hn⟩ (fun Q hQ => ?_) (fun M1 Q R hQ => ?_)
        · have W := C.1
          refine Runs.ok fun jk => ?_
          have jk : jR k := jok_R (jk (0, k) (by simp))
          refine rn_X11_nthPart _ _ _ M (sg_X11_nthPart_0 _ _ _ M ?_)
          rw [wa_1200 W]
          refine ⟨wa_t W, w_shelf_t W, c_lkT C A hX ht (fun _ => ⟨fun q => absurd q (by omega), fun _ => ?_⟩)⟩
          rw [wa_1200 W]
          refine ⟨wa_t W, w_shelf_t W, c_isFull W (fun z => absurd z (by rw [C.2.1.1]; omega)) (fun _ _ => ⟨fun _ => ⟨wa_t W, c_sufOf C H A hX ht (fun N fr c h' e1 e2 _ s so _ => ?_)⟩, fun z => absurd rfl z⟩)⟩
          rw [← hL] at s
          rw [← hL, ← hf] at so
          have S := sx_one c.1
          refine ⟨S.tt, c_choose S s ⟨u1, u2⟩ hf0 so jk (fun q N2 hq fq g1 g2 _ => ⟨fun _ => ?_, fun z => absurd (by decide) z⟩) (fun z => absurd ⟨r, hr⟩ z)⟩
          have qr := Nth_uniq hf0 hq hr
          subst qr
          rw [g1, g2, ← he, ← ho]
          have c2 : CB X n N2 T K P D := c.keep A fun k a j z => fq k a j (by unfold fpC fpS fpT fpK fpP fpD at z; omega)
          have h2 : CH X N2 T := h'.keep c.2.2.2.2.2.2 fun k a j z => fq k a j (by have := c.2.2.2.2.2.2.1; unfold fpH at z; omega)
          have W2 := c2.1
          obtain ⟨TT, x1, x2, x3, x4, x5, x6, x7, x8⟩ := c_txt c2 A ht
          rw [← hL] at x1 x3
          rw [← hf] at x3
          refine ⟨w_suf_t W2, w_suf_t W2, wa_t W2, c_mkp (g := f) c2 h2 A hX (by omega) hm TT (by omega) (by omega) (by omega) (by rw [x2]; omega) (fun i i0 i1 => by rw [x2]; exact x3 i i0 (by omega)) (fun i i0 i1 => u3 i (by omega) (by omega)) (by omega) oe.1 (by omega) (by omega) (fun M3 f3 c3 A3 s3 p1 p2 _ => hQ M3 A3 ((fr.trans (M' := N) (M'' := N2) (fun k a j z1 z2 => fq k a j (by omega))).trans f3) c3 s3 ?_ ?_)⟩
          · rw [p1, fq _ _ _ (by omega)]; exact e1
          · rw [p2, fq _ _ _ (by omega)]; exact e2
        · have W := R.1
          have wt := w_model_t W
          obtain ⟨z1, -, z3, -, -⟩ := r_txt R A ht
          rw [← hL] at z1
          have hne : t ≠ T.1 := by omega
          refine Runs.ok fun jk => ?_
          have jk : jR k := jok_R (jk (0, k) (by simp))
          unfold jR at jk
          refine lp_X12_nthPart (fun v0 v1 v3 v4 N => X + 218 = v0 ∧ t = v1 ∧ v3 = k - smI (frs L f) v4 ∧ 0 ≤ v4 ∧ v4 ≤ r ∧ 0 ≤ smI (frs L f) v4 ∧ smI (frs L f) v4 ≤ 240 * v4 ∧ 0 ≤ v3 ∧ Ox X M1 N ∧ Tbl X N L f ∧ ∀ i, 0 ≤ i → i < L → N 2 (X + 226) (rk L f i) = i) (fun _ _ _ v4 => (2000 + 1000 - v4).toNat) (fun v0 v1 v3 v5 v6 v8 v9 N => X + 218 = v0 ∧ t = v1 ∧ v5 = o ∧ v5 + v6 + v3 + 1 = e ∧ 0 ≤ v6 ∧ 0 ≤ v3 ∧ T.1 = v8 ∧ o ≤ v9 ∧ v9 ≤ e ∧ FrR X M1 N ∧ RI X N (atx (aopen T) T.1 (v9 - o) (fun i => f (o + i))) (kpush K T.1 1 0 (T.2.2 T.1)) P D ∧ AI (atx (aopen T) T.1 (v9 - o) (fun i => f (o + i))) (kpush K T.1 1 0 (T.2.2 T.1)) P D) (fun _ _ _ _ _ _ v9 => (1000 - v9).toNat) ?_ ?_ _ _ _ M1 ?_
          · rintro v0 v1 v3 v4 N ⟨rfl, rfl, rfl, i1, i2, i3, i4, i5, i6, i7, i8⟩
            have RN := i6.RI R
            have WN := RN.1
            have wn := w_model_t WN
            obtain ⟨y1, -, -, -, -⟩ := r_txt RN A ht
            rw [← hL] at y1
            have oe4 := od_eq (od := N 2 (X + 226)) hf0 i8 i1 (show v4 < L by omega)
            have fr4 := frs_r hf0 i1 (show v4 < L by omega)
            have ok4 := odr_ok hf0 i1 (show v4 < L by omega)
            have sr4 := shr_r hf0 i1 (show v4 < L by omega)
            have fd4 : frs L f v4 = L - odr L f v4 - shr L f v4 := rfl
            have ss : smI (frs L f) (v4 + 1) = smI (frs L f) v4 + frs L f v4 := smI_s i1
            have iff : frs L f v4 ≤ k - smI (frs L f) v4 ↔ v4 < r := by
              constructor
              · intro z
                rcases Int.lt_or_le v4 r with y | y
                · exact y
                · have : v4 = r := by omega
                  subst this
                  omega
              · intro z
                have := smI_mono (g := frs L f) (a := v4 + 1) (b := r) (by omega) (by omega) (fun i i0 i1 => (frs_r hf0 (by omega) (by omega)).1)
                omega
            have fin : v4 = r → ∀ x M2, x = shr L f v4 → FrR X N M2 → RI X M2 (aopen T) (kpush K T.1 1 0 (T.2.2 T.1)) P D → AI (aopen T) (kpush K T.1 1 0 (T.2.2 T.1)) P D → (X + 218 = X + 218 ∧ t = t ∧ odr L f v4 = o ∧ odr L f v4 + x + (k - smI (frs L f) v4) + 1 = e ∧ 0 ≤ x ∧ 0 ≤ k - smI (frs L f) v4 ∧ T.1 = T.1 ∧ o ≤ odr L f v4 ∧ odr L f v4 ≤ e ∧ FrR X M1 M2 ∧ RI X M2 (atx (aopen T) T.1 (odr L f v4 - o) (fun i => f (o + i))) (kpush K T.1 1 0 (T.2.2 T.1)) P D ∧ AI (atx (aopen T) T.1 (odr L f v4 - o) (fun i => f (o + i))) (kpush K T.1 1 0 (T.2.2 T.1)) P D) := fun z x M2 hx ff rr aa => by
              subst z
              have sm : Same (aopen T) (atx (aopen T) T.1 (odr L f v4 - o) (fun i => f (o + i))) := same_atx (by show odr L f v4 - o = if T.1 = T.1 then 0 else _; rw [if_pos rfl]; omega) (fun i i0 i1 => by omega)
              exact ⟨rfl, rfl, ho.symm, by omega, by omega, by omega, rfl, by omega, by omega, i6.FrR.trans ff, sm.RI rr, sm.AI aa⟩
            rw [w_model_1301 WN, w_m1301_t WN, w_m1301_n WN, y1, w_model_1309 WN, w_m1309_t WN, w_m1309_n WN, oe4]
            refine ⟨wn, ⟨rfl, ht.1, z3⟩, fun q => absurd q (by omega), fun q => ⟨wn, ⟨rfl, i1, by omega⟩, fun z => ?_, fun z => ?_⟩⟩
            · have oe3 := od_eq (od := N 2 (X + 226)) hf0 i8 (show 0 ≤ v4 - 1 by omega) (show v4 - 1 < L by omega)
              have ok3 := odr_ok hf0 (show 0 ≤ v4 - 1 by omega) (show v4 - 1 < L by omega)
              have sh4 : shr L f v4 = lcp2 L f L f (odr L f (v4 - 1)) (odr L f v4) := by unfold shr; rw [if_neg z]
              rw [oe3, w_model_1308 WN, w_m1308_t WN, w_m1308_n WN, i7 _ _ ok3.1 (by omega) ok4.1 (by omega), ← sh4]
              exact ⟨wn, wn, by unfold jR; omega, ⟨rfl, by omega, by omega⟩, by unfold jR; omega, by unfold jR; omega, ⟨rfl, by omega, by omega⟩, wn, ⟨rfl, ht.1, z3⟩, by unfold jR; omega, by unfold jR; omega, fun le => ⟨by unfold jR; omega, by unfold jR; omega, ⟨rfl, rfl, by omega, by omega, by have := iff.mp (by omega); omega, by omega, by omega, by omega, i6, i7, i8⟩, by omega⟩, fun le => ⟨wn, r_newText RN A hm (fun M2 f2 r2 a2 _ => ⟨fin (by have := fun y => iff.mpr y; omega) _ M2 rfl f2 r2 a2, by omega⟩)⟩⟩
            · have z := Classical.not_not.mp z
              have sh4 : shr L f v4 = 0 := by unfold shr; rw [if_pos z]
              exact ⟨wn, ⟨rfl, ht.1, z3⟩, by unfold jR; omega, by unfold jR; omega, fun le => ⟨by unfold jR; omega, by unfold jR; omega, ⟨rfl, rfl, by omega, by omega, by have := iff.mp (by omega); omega, by omega, by omega, by omega, i6, i7, i8⟩, by omega⟩, fun le => ⟨wn, r_newText RN A hm (fun M2 f2 r2 a2 _ => ⟨fin (by have := fun y => iff.mpr y; omega) _ M2 sh4.symm f2 r2 a2, by omega⟩)⟩⟩
          · rintro v0 v1 v3 v5 v6 v8 v9 N ⟨rfl, rfl, rfl, i1, i2, i3, rfl, i5, i6, i7, i8, i9⟩
            refine ⟨by unfold jR; omega, by unfold jR; omega, by unfold jR; omega, fun q => ?_, fun q => ⟨w_model_t i8.1, ?_⟩⟩
            · have e9 : v9 = e := by omega
              rw [e9] at i8
              exact hQ N i7 i8
            · refine r_un i8 i9 (t := t) ⟨ht.1, by show t < T.1 + 1; omega⟩ (by omega) (by rw [atx_on hne]; show v9 < if t = T.1 then 0 else T.2.1 t; rw [if_neg hne]; omega) (fun _ => ⟨w_model_t i8.1, ?_⟩)
              rw [atx_of hne]
              refine r_putF i8 i9 ⟨a1, by show T.1 < T.1 + 1; omega⟩ (by omega) (by show T.2.2 t v9 = f (v5 + (v9 - v5)); rw [show v5 + (v9 - v5) = v9 by omega, hf]) (u3 _ (by omega) (by omega)) (fun M2 x2 r2 a2 _ => ⟨by unfold jR; omega, ⟨rfl, rfl, rfl, i1, i2, i3, rfl, by omega, by omega, i7.trans x2.FrR, ?_, ?_⟩, by omega⟩)
              · rw [show v9 + 1 - v5 = v9 - v5 + 1 by omega]; exact r2
              · rw [show v9 + 1 - v5 = v9 - v5 + 1 by omega]; exact a2
          · have em := R.2.1.1
            have k0 : 0 ≤ k := by
              have := smI_mono (g := frs L f) (a := 0) (b := r) (by omega) r0 (fun i i0 i1 => (frs_r hf0 (by omega) (by omega)).1)
              rw [smI_z (by omega)] at this
              omega
            refine ⟨wt, r_isT R A ht (fun _ => ⟨fun _ => ⟨wt, fun _ => ⟨fun _ => ⟨wt, r_orders R A ht hL hf (fun N o1 RN tb od1 _ => ⟨rfl, rfl, by rw [smI_z (by omega)]; omega, by omega, r0, by rw [smI_z (by omega)]; omega, by rw [smI_z (by omega)]; omega, k0, o1, tb, od1⟩)⟩, fun z => absurd k0 z⟩, fun z => absurd (by omega) z⟩, fun z => absurd (by decide) z⟩)⟩
      · -- there is no such part: only scratch changes
        refine ⟨fun r' T' K' P' D' => r' = -4 ∧ T' = T ∧ K' = K ∧ P' = P ∧ D' = D, fun Q hQ => ?_, ?_⟩
        · have W := C.1
          refine Runs.ok fun jk => ?_
          have jk : jR k := jok_R (jk (0, k) (by simp))
          refine rn_X11_nthPart _ _ _ M (sg_X11_nthPart_0 _ _ _ M ?_)
          rw [wa_1200 W]
          refine ⟨wa_t W, w_shelf_t W, c_lkT C A hX ht (fun _ => ⟨fun q => absurd q (by omega), fun _ => ?_⟩)⟩
          rw [wa_1200 W]
          refine ⟨wa_t W, w_shelf_t W, c_isFull W (fun z => absurd z (by rw [C.2.1.1]; omega)) (fun _ _ => ⟨fun _ => ⟨wa_t W, c_sufOf C H A hX ht (fun N fr c h' e1 e2 _ s so _ => ?_)⟩, fun z => absurd rfl z⟩)⟩
          rw [← hL] at s
          rw [← hL, ← hf] at so
          have S := sx_one c.1
          exact ⟨S.tt, c_choose S s ⟨u1, u2⟩ hf0 so jk (fun q N2 hq fq g1 g2 _ => absurd ⟨q, hq⟩ hk) (fun _ _ => ⟨fun z => absurd rfl z, fun _ => hQ (-4) N T K P D ⟨rfl, rfl, rfl, rfl, rfl⟩ A fr (c.mono (by omega) (by omega)) h' e1 e2⟩)⟩
        · rintro M1 Q r' T' K' P' D' ⟨rfl, rfl, rfl, rfl, rfl⟩ R hQ
          have W := R.1
          have wt := w_model_t W
          obtain ⟨z1, -, z3, -, -⟩ := r_txt R A ht
          rw [← hL] at z1
          refine Runs.ok fun jk => ?_
          have jk : jR k := jok_R (jk (0, k) (by simp))
          unfold jR at jk
          refine lp_X12_nthPart (fun v0 v1 v3 v4 N => X + 218 = v0 ∧ t = v1 ∧ v3 = k - smI (frs L f) v4 ∧ 0 ≤ v4 ∧ v4 ≤ L ∧ 0 ≤ smI (frs L f) v4 ∧ smI (frs L f) v4 ≤ 240 * v4 ∧ 0 ≤ v3 ∧ Ox X M1 N ∧ Tbl X N L f ∧ ∀ i, 0 ≤ i → i < L → N 2 (X + 226) (rk L f i) = i) (fun _ _ _ v4 => (2000 + 1000 - v4).toNat) (fun _ _ _ _ _ _ _ _ => False) (fun _ _ _ _ _ _ _ => 0) ?_ (fun _ _ _ _ _ _ _ _ z => z.elim) _ _ _ M1 ?_
          · rintro v0 v1 v3 v4 N ⟨rfl, rfl, rfl, i1, i2, i3, i4, i5, i6, i7, i8⟩
            have RN := i6.RI R
            have WN := RN.1
            have wn := w_model_t WN
            obtain ⟨y1, -, -, -, -⟩ := r_txt RN A ht
            rw [← hL] at y1
            rw [w_model_1301 WN, w_m1301_t WN, w_m1301_n WN, y1, w_model_1309 WN, w_m1309_t WN, w_m1309_n WN]
            refine ⟨wn, ⟨rfl, ht.1, z3⟩, fun q => hQ N i6.FrR RN, fun q => ⟨wn, ⟨rfl, i1, by omega⟩, ?_⟩⟩
            have oe4 := od_eq (od := N 2 (X + 226)) hf0 i8 i1 (show v4 < L by omega)
            have fr4 := frs_r hf0 i1 (show v4 < L by omega)
            have ok4 := odr_ok hf0 i1 (show v4 < L by omega)
            have sr4 := shr_r hf0 i1 (show v4 < L by omega)
            have fd4 : frs L f v4 = L - odr L f v4 - shr L f v4 := rfl
            have ss : smI (frs L f) (v4 + 1) = smI (frs L f) v4 + frs L f v4 := smI_s i1
            have nn : frs L f v4 ≤ k - smI (frs L f) v4 := by
              rcases Int.lt_or_le (k - smI (frs L f) v4) (frs L f v4) with y | y
              · exact absurd ⟨v4, i1, by omega, by omega, y⟩ hk
              · exact y
            rw [oe4]
            refine ⟨fun z => ?_, fun z => ?_⟩
            · have oe3 := od_eq (od := N 2 (X + 226)) hf0 i8 (show 0 ≤ v4 - 1 by omega) (show v4 - 1 < L by omega)
              have ok3 := odr_ok hf0 (show 0 ≤ v4 - 1 by omega) (show v4 - 1 < L by omega)
              have sh4 : shr L f v4 = lcp2 L f L f (odr L f (v4 - 1)) (odr L f v4) := by unfold shr; rw [if_neg z]
              rw [oe3, w_model_1308 WN, w_m1308_t WN, w_m1308_n WN, i7 _ _ ok3.1 (by omega) ok4.1 (by omega), ← sh4]
              exact ⟨wn, wn, by unfold jR; omega, ⟨rfl, by omega, by omega⟩, by unfold jR; omega, by unfold jR; omega, ⟨rfl, by omega, by omega⟩, wn, ⟨rfl, ht.1, z3⟩, by unfold jR; omega, by unfold jR; omega, fun le => ⟨by unfold jR; omega, by unfold jR; omega, ⟨rfl, rfl, by omega, by omega, by omega, by omega, by omega, by omega, i6, i7, i8⟩, by omega⟩, fun le => absurd (by omega) le⟩
            · have z := Classical.not_not.mp z
              have sh4 : shr L f v4 = 0 := by unfold shr; rw [if_pos z]
              exact ⟨wn, ⟨rfl, ht.1, z3⟩, by unfold jR; omega, by unfold jR; omega, fun le => ⟨by unfold jR; omega, by unfold jR; omega, ⟨rfl, rfl, by omega, by omega, by omega, by omega, by omega, by omega, i6, i7, i8⟩, by omega⟩, fun le => absurd (by omega) le⟩
          · have em := R.2.1.1
            refine ⟨wt, r_isT R A ht (fun _ => ⟨fun _ => ⟨wt, fun _ => ⟨fun k0 => ⟨wt, r_orders R A ht hL hf (fun N o1 RN tb od1 _ => ⟨rfl, rfl, by rw [smI_z (by omega)]; omega, by omega, u1, by rw [smI_z (by omega)]; omega, by rw [smI_z (by omega)]; omega, k0, o1, tb, od1⟩)⟩, fun _ => hQ M1 (FrR.refl X M1) R⟩, fun z => absurd (by omega) z⟩, fun z => absurd (by decide) z⟩)⟩
    · refine mk_no (r := -3) C H A ⟨hn0, hn⟩ (fun Q hQ => ?_) (fun M1 Q R hQ => ?_)
      · have W := C.1
        refine rn_X11_nthPart _ _ _ M (sg_X11_nthPart_0 _ _ _ M ?_)
        rw [wa_1200 W]
        refine ⟨wa_t W, w_shelf_t W, c_lkT C A hX ht (fun _ => ⟨fun q => absurd q (by omega), fun _ => ?_⟩)⟩
        rw [wa_1200 W]
        exact ⟨wa_t W, w_shelf_t W, c_isFull W (fun _ _ => ⟨fun z => absurd z (by decide), fun _ => hQ⟩) (fun z => absurd z (by rw [C.2.1.1]; omega))⟩
      · have W := R.1
        have wt := w_model_t W
        have em := R.2.1.1
        refine lp_X12_nthPart (fun _ _ _ _ _ => False) (fun _ _ _ _ => 0) (fun _ _ _ _ _ _ _ _ => False) (fun _ _ _ _ _ _ _ => 0) (fun _ _ _ _ _ z => z.elim) (fun _ _ _ _ _ _ _ _ z => z.elim) _ _ _ M1 ?_
        exact ⟨wt, r_isT R A ht (fun _ => ⟨fun _ => ⟨wt, fun z => absurd (by omega) z, fun _ => hQ⟩, fun z => absurd (by decide) z⟩)⟩
  · refine mk_no (r := -2) C H A ⟨hn0, hn⟩ (fun Q hQ => ?_) (fun M1 Q R hQ => ?_)
    · have W := C.1
      refine rn_X11_nthPart _ _ _ M (sg_X11_nthPart_0 _ _ _ M ?_)
      repeat' first | rw [wa_1200 W] | (refine c_lkF C A hX ht ?_) | apply And.intro | intro _ | exact wt | exact wa_t W | exact w_shelf_t W | assumption | exact Or.inl rfl | exact Or.inr rfl | rfl | omega | (unfold jR; omega)
    · have W := R.1
      have wt := w_model_t W
      refine lp_X12_nthPart (fun _ _ _ _ _ => False) (fun _ _ _ _ => 0) (fun _ _ _ _ _ _ _ _ => False) (fun _ _ _ _ _ _ _ => 0) (fun _ _ _ _ _ z => z.elim) (fun _ _ _ _ _ _ _ _ z => z.elim) _ _ _ M1 ?_
      repeat' first | rw [wa_1200 W] | (refine r_isF R A ht ?_) | apply And.intro | intro _ | exact wt | exact wa_t W | exact w_shelf_t W | assumption | exact Or.inl rfl | exact Or.inr rfl | rfl | omega | (unfold jR; omega)
end NTH
