/-! steps: lyndon, parts, nthPart -/
theorem Runs.ok {G : JG} {y mc ms : Nat} {as : List JV} {M : JM} {Q : Int → JM → Prop} (h : (∀ v ∈ as, jok v) → Runs G y mc ms as M Q) : Runs G y mc ms as M Q := fun hM ha => h ha hM ha
noncomputable def odr (n : Int) (f : Int → Int) (r : Int) : Int := Classical.epsilon (fun i => 0 ≤ i ∧ i < n ∧ rk n f i = r)
noncomputable def shr (n : Int) (f : Int → Int) (r : Int) : Int := if r = 0 then 0 else lcp2 n f n f (odr n f (r - 1)) (odr n f r)
noncomputable def frs (n : Int) (f : Int → Int) (r : Int) : Int := n - odr n f r - shr n f r
theorem odr_ok {n r : Int} {f : Int → Int} (hf : ∀ k, 0 ≤ k → k < n → 0 ≤ f k) (r0 : 0 ≤ r) (r1 : r < n) : 0 ≤ odr n f r ∧ odr n f r < n ∧ rk n f (odr n f r) = r := Classical.epsilon_spec ((rk_prm (by omega) hf).2.2 r r0 r1)
theorem odr_rk {n i : Int} {f : Int → Int} (hf : ∀ k, 0 ≤ k → k < n → 0 ≤ f k) (i0 : 0 ≤ i) (i1 : i < n) : odr n f (rk n f i) = i := by
  have k := rk_r (f := f) i0 i1
  obtain ⟨a, b, c⟩ := odr_ok hf k.1 k.2
  exact rk_inj hf a b i0 i1 c
theorem od_eq {n r : Int} {f od : Int → Int} (hf : ∀ k, 0 ≤ k → k < n → 0 ≤ f k) (ho : ∀ i, 0 ≤ i → i < n → od (rk n f i) = i) (r0 : 0 ≤ r) (r1 : r < n) : od r = odr n f r := by
  obtain ⟨a, b, c⟩ := odr_ok hf r0 r1
  have := ho _ a b
  rw [c] at this
  exact this
theorem sh_eq {n r : Int} {f od sh : Int → Int} (hf : ∀ k, 0 ≤ k → k < n → 0 ≤ f k) (ho : ∀ i, 0 ≤ i → i < n → od (rk n f i) = i) (hs : ∀ j, 0 ≤ j → j < n → sh (rk n f j) = if rk n f j = 0 then 0 else lcp2 n f n f (od (rk n f j - 1)) j) (r0 : 0 ≤ r) (r1 : r < n) : sh r = shr n f r := by
  obtain ⟨a, b, c⟩ := odr_ok hf r0 r1
  have e := hs _ a b
  rw [c] at e
  rw [e]
  unfold shr
  by_cases z : r = 0
  · rw [if_pos z, if_pos z]
  · rw [if_neg z, if_neg z, od_eq hf ho (by omega) (by omega)]
theorem shr_r {n r : Int} {f : Int → Int} (hf : ∀ k, 0 ≤ k → k < n → 0 ≤ f k) (r0 : 0 ≤ r) (r1 : r < n) : 0 ≤ shr n f r ∧ odr n f r + shr n f r ≤ n := by
  have a := odr_ok hf r0 r1
  unfold shr
  by_cases z : r = 0
  · rw [if_pos z]; omega
  · rw [if_neg z]
    have b := odr_ok hf (r := r - 1) (by omega) (by omega)
    have := @lcp2_r n n (odr n f (r - 1)) (odr n f r) f f (by omega) (by omega)
    omega
theorem parts_eq {n : Int} {f a : Int → Int} (hn : 0 ≤ n) (hf : ∀ k, 0 ≤ k → k < n → 0 ≤ f k) (ha : ∀ i, 0 ≤ i → i < n → Mxs n f (elf 1 n i) i (a i) ∧ a i + i ≤ n) : smI (fun i => n - i - a i) n = smI (frs n f) n := by
  have pp := rk_prm hn hf
  have e : smI (frs n f) n = smI (fun i => n - i - shr n f (rk n f i)) n := by
    rw [← Prm_sum hn pp]
    exact smI_c fun i i0 i1 => by unfold frs; rw [odr_rk hf i0 i1]
  rw [e, smI_sub (g := fun i => n - i) (h := a) n, smI_sub (g := fun i => n - i) (h := fun i => shr n f (rk n f i)) n]
  have s := share_sum (a := a) (b := fun i => shr n f (rk n f i)) hn hf (fun i i0 i1 => ?_) (fun i i0 i1 => ?_)
  · rw [s]
  · obtain ⟨⟨m1, m2, m3⟩, m4⟩ := ha i i0 i1
    refine ⟨⟨m1, by omega⟩, fun l l0 => ⟨fun z => ?_, fun ⟨j, j0, j1, j2⟩ => ?_⟩⟩
    · rcases m3 with y | ⟨j, j0, j1⟩
      · omega
      · rcases j0 with y | y
        · exact absurd y.1 (by decide)
        · exact ⟨j, y.2.1, y.2.2, by omega⟩
    · have := m2 j (Or.inr ⟨by decide, j0, j1⟩); omega
  · have k := rk_r (f := f) i0 i1
    have sr := shr_r hf k.1 k.2
    rw [odr_rk hf i0 i1] at sr
    refine ⟨⟨sr.1, by omega⟩, fun l l0 => ⟨fun z => ?_, fun ⟨j, j0, j1, j2, j3⟩ => ?_⟩⟩
    · have z : l < shr n f (rk n f i) := z
      unfold shr at z
      by_cases y : rk n f i = 0
      · rw [if_pos y] at z; omega
      · rw [if_neg y, odr_rk hf i0 i1] at z
        obtain ⟨p0, p1, p2⟩ := odr_ok hf (r := rk n f i - 1) (by omega) (by omega)
        exact ⟨_, p0, p1, by omega, by rw [lcp_sym]; exact z⟩
    · have jr := rk_r (f := f) j0 j1
      show l < shr n f (rk n f i)
      unfold shr
      rw [if_neg (by omega), odr_rk hf i0 i1]
      obtain ⟨p0, p1, p2⟩ := odr_ok hf (r := rk n f i - 1) (by omega) (by omega)
      rw [lcp_sym] at j3
      by_cases y : rk n f j = rk n f i - 1
      · rw [show odr n f (rk n f i - 1) = j by rw [← y]; exact odr_rk hf j0 j1]; exact j3
      · have := lcp_btw j0 j1 p0 p1 i0 i1 ((rk_iff hf j0 j1 p0 p1).mp (by omega)) ((rk_iff hf p0 p1 i0 i1).mp (by omega))
        omega
section LYND
variable {G : JG} {X : Int}
theorem st_lyndon (t k : Int) : JSt (IV X) 3072 G X 145 235 [(0, t), (0, k)] := mk_rl fun n M T K P D C H A hX => by
  by_cases ht : 0 ≤ t ∧ t < T.1
  · obtain ⟨u1, u2, u3⟩ := A.1.2.2 t ht.1 ht.2
    obtain ⟨L, hL⟩ : ∃ L, L = T.2.1 t := ⟨_, rfl⟩
    obtain ⟨f, hf⟩ : ∃ f, f = T.2.2 t := ⟨_, rfl⟩
    rw [← hL] at u1 u2
    rw [← hL, ← hf] at u3
    have hf0 : ∀ k, 0 ≤ k → k < L → 0 ≤ f k := fun k k0 k1 => (u3 k k0 k1).1
    refine ⟨fun r => LyR L f k r, fun Q hQ => ?_, ?_⟩
    · have W := C.1
      refine rn_X11_lyndon _ _ _ M (sg_X11_lyndon_0 _ _ _ M ?_)
      rw [wa_1200 W]
      refine ⟨wa_t W, w_shelf_t W, c_lkT C A hX ht (fun _ => ⟨fun q => absurd q (by omega), fun _ => ⟨wa_t W, c_sufOf C H A hX ht (fun N fr c h' e1 e2 _ s so _ => ?_)⟩⟩)⟩
      have S := sx_one c.1
      rw [← hL] at s
      rw [← hL, ← hf] at so
      refine ⟨S.tt, lp_X8_lyndonStart (fun v0 v1 v2 v3 v4 N' => N = N' ∧ X + 144 = v0 ∧ k = v1 ∧ v3 = cntI (isR L f) v4 ∧ 0 ≤ v4 ∧ v4 ≤ L ∧ (∀ i, 0 ≤ i → i < v4 → v2 ≤ rk L f i) ∧ (v2 = L ∨ ∃ i, 0 ≤ i ∧ i < v4 ∧ rk L f i = v2) ∧ ∀ i, 0 ≤ i → i < v4 → isR L f i → cntI (isR L f) i ≠ k) (fun _ _ _ _ v4 => (1000 - v4).toNat) ?_ _ _ N ?_⟩
      · rintro v0 v1 v2 v3 v4 N' ⟨rfl, rfl, rfl, rfl, i1, i2, i3, i4, i5⟩
        rw [s, S.f6, S.t7, S.n7, show X + 144 + 7 = X + 151 by omega]
        have cr := @cntI_r (isR L f) v4 i1
        refine ⟨S.tt, fun q _ => hQ _ N (Or.inr ⟨rfl, fun i i0 i1 => i5 i i0 (by omega)⟩) fr c h' e1 e2, fun q => ?_⟩
        have kr := rk_r (f := f) i1 (show v4 < L by omega)
        rw [so.1 v4 i1 (by omega)]
        refine ⟨S.tt, ⟨rfl, i1, by omega⟩, fun le => ?_, fun le => ?_⟩
        · have nr : ¬ isR L f v4 := fun z => by
            rcases i4 with y | ⟨i, a, b, d⟩
            · omega
            · have := (rk_iff hf0 i1 (by omega) a (by omega)).mpr (z i a b); omega
          refine ⟨by unfold jR; omega, ⟨rfl, rfl, rfl, by rw [cntI_f i1 nr], by omega, by omega, fun i i0 i1 => ?_, i4.imp id fun ⟨i, a, b, d⟩ => ⟨i, a, by omega, d⟩, fun i i0 i1 z => ?_⟩, by omega⟩
          · by_cases hi : i = v4
            · rw [hi]; exact le
            · exact i3 i i0 (by omega)
          · by_cases hi : i = v4
            · rw [hi] at z; exact absurd z nr
            · exact i5 i i0 (by omega) z
        · have yr : isR L f v4 := fun i i0 i1' => (rk_iff hf0 i1 (by omega) i0 (by omega)).mp (by have := i3 i i0 i1'; omega)
          refine ⟨fun ne => ⟨S.tt, ⟨rfl, i1, by omega⟩, by unfold jR; omega, by unfold jR; omega, ⟨rfl, rfl, rfl, by rw [cntI_t i1 yr], by omega, by omega, fun i i0 i1 => ?_, Or.inr ⟨v4, i1, by omega, rfl⟩, fun i i0 i1 z => ?_⟩, by omega⟩, fun ne _ => hQ _ N (Or.inl ⟨i1, by omega, yr, Classical.not_not.mp ne⟩) fr c h' e1 e2⟩
          · by_cases hi : i = v4
            · rw [hi]; exact Int.le_refl _
            · have := i3 i i0 (by omega); omega
          · by_cases hi : i = v4
            · rw [hi]; exact ne
            · exact i5 i i0 (by omega) z
      · exact ⟨S.tt, rfl, rfl, rfl, by rw [cntI_z (by omega)], by omega, by omega, fun i i0 i1 => by omega, Or.inl s, fun i i0 i1 => by omega⟩
    · rintro M1 Q r hr R hQ
      have W := R.1
      have wt := w_model_t W
      refine lp_X12_lyndon (fun v0 v1 v2 v3 v4 N => X + 218 = v0 ∧ t = v1 ∧ k = v2 ∧ v3 = cntI (isR L f) v4 ∧ 0 ≤ v4 ∧ v4 ≤ L ∧ (v4 < L → isR L f v4) ∧ Lk X M1 N ∧ Tbl X N L f ∧ ∀ i, 0 ≤ i → i < v4 → isR L f i → cntI (isR L f) i ≠ k) (fun _ _ _ _ v4 => ((1000 - v4) * 2).toNat + 1) (fun v0 v1 v2 v3 v4 v5 N => X + 218 = v0 ∧ t = v1 ∧ k = v2 ∧ v3 = cntI (isR L f) v5 ∧ 0 ≤ v4 ∧ v4 < v5 ∧ v5 ≤ L ∧ isR L f v4 ∧ (∀ j, v4 < j → j < v5 → ¬ sls L f j v4) ∧ Lk X M1 N ∧ Tbl X N L f ∧ ∀ i, 0 ≤ i → i < v5 → isR L f i → cntI (isR L f) i ≠ k) (fun _ _ _ _ _ v5 => ((1000 - v5) * 2 + 1).toNat + 1) ?_ ?_ _ _ _ M1 ⟨wt, r_isT R A ht (fun _ => ⟨fun _ => ⟨wt, r_look R.1 R.2.1 A.1 ht ht (fun N lk lv _ => ⟨rfl, rfl, rfl, by rw [cntI_z (by omega)], by omega, by omega, fun _ i i0 i1 => by omega, lk, by rw [hL, hf]; exact lv, fun i i0 i1 => by omega⟩)⟩, fun z => absurd (by decide) z⟩)⟩
      · rintro v0 v1 v2 v3 v4 N ⟨rfl, rfl, rfl, rfl, i1, i2, i3, i4, i5, i6⟩
        have RN := i4.RI R
        have WN := RN.1
        have wn := w_model_t WN
        obtain ⟨z1, -, z3, -, -⟩ := r_txt RN A ht
        rw [← hL] at z1
        rw [w_model_1301 WN, w_m1301_t WN, w_m1301_n WN, z1]
        have cr := @cntI_r (isR L f) v4 i1
        refine ⟨wn, ⟨rfl, ht.1, z3⟩, fun q => ?_, fun q => ⟨fun ne => ⟨by unfold jR; omega, by unfold jR; omega, ⟨rfl, rfl, rfl, by rw [cntI_t i1 (i3 (by omega))], i1, by omega, by omega, i3 (by omega), fun j j0 j1 => by omega, i4, i5, fun i i0 i1 z => ?_⟩, by omega⟩, fun ne => ?_⟩⟩
        · rw [LyR_uniq hr (Or.inr ⟨rfl, fun i i0 i1 => i6 i i0 (by omega)⟩)] at hQ
          exact hQ N i4.FrR RN
        · by_cases hi : i = v4
          · rw [hi]; exact ne
          · exact i6 i i0 (by omega) z
        · rw [LyR_uniq hr (Or.inl ⟨i1, by omega, i3 (by omega), Classical.not_not.mp ne⟩)] at hQ
          exact hQ N i4.FrR RN
      · rintro v0 v1 v2 v3 v4 v5 N ⟨rfl, rfl, rfl, rfl, i1, i2, i3, i4, i5, i6, i7, i8⟩
        have RN := i6.RI R
        have WN := RN.1
        have wn := w_model_t WN
        obtain ⟨z1, -, z3, -, -⟩ := r_txt RN A ht
        rw [← hL] at z1
        rw [w_model_1301 WN, w_m1301_t WN, w_m1301_n WN, z1]
        have mid : ∀ j, v4 < j → j < v5 → sls L f v4 j := fun j j0 j1 => (sls_tot hf0 i1 (by omega) (by omega) (by omega) (by omega)).resolve_right (i5 j j0 j1)
        refine ⟨wn, ⟨rfl, ht.1, z3⟩, fun q => ⟨⟨rfl, rfl, rfl, rfl, by omega, i3, fun z => by omega, i6, i7, i8⟩, by omega⟩, fun q => ⟨wn, r_less RN A ht hL hf i7 (by omega) (by omega) i1 (by omega) (fun sl _ => ⟨fun _ => ⟨⟨rfl, rfl, rfl, rfl, by omega, i3, fun _ i i0 i1' => ?_, i6, i7, i8⟩, by omega⟩, fun z => absurd (by decide) z⟩) (fun sl _ => ⟨fun z => absurd rfl z, fun _ => ⟨by unfold jR; omega, ⟨rfl, rfl, rfl, ?_, i1, by omega, by omega, i4, fun j j0 j1 => ?_, i6, i7, fun i i0 i1' z => ?_⟩, by omega⟩⟩)⟩⟩
        · rcases Int.lt_trichotomy i v4 with c | c | c
          · exact sls_tr hf0 (by omega) (by omega) i1 (by omega) i0 (by omega) sl (i4 i i0 c)
          · rw [c]; exact sl
          · exact sls_tr hf0 (by omega) (by omega) i1 (by omega) i0 (by omega) sl (mid i c i1')
        · rw [cntI_f (by omega) (fun z => sl (z v4 i1 i2))]
        · by_cases hj : j = v5
          · rw [hj]; exact sl
          · exact i5 j j0 (by omega)
        · by_cases hi : i = v5
          · rw [hi] at z; exact absurd (z v4 i1 i2) sl
          · exact i8 i i0 (by omega) z
  · refine ⟨fun r => r = -2, fun Q hQ => ?_, ?_⟩
    · have hQ := hQ (-2) M rfl (FrC.refl X M) C H rfl rfl
      have W := C.1
      refine rn_X11_lyndon _ _ _ M (sg_X11_lyndon_0 _ _ _ M ?_)
      repeat' first | rw [wa_1200 W] | (refine c_lkF C A hX ht ?_) | apply And.intro | intro _ | exact wt | exact wa_t W | exact w_shelf_t W | assumption | exact Or.inl rfl | exact Or.inr rfl | rfl | omega | (unfold jR; omega)
    · rintro M1 Q r rfl R hQ
      have hQ := hQ M1 (FrR.refl X M1) R
      have W := R.1
      have wt := w_model_t W
      refine lp_X12_lyndon (fun _ _ _ _ _ _ => False) (fun _ _ _ _ _ => 0) (fun _ _ _ _ _ _ _ => False) (fun _ _ _ _ _ _ => 0) (fun _ _ _ _ _ _ g => g.elim) (fun _ _ _ _ _ _ _ g => g.elim) _ _ _ M1 ?_
      repeat' first | rw [wa_1200 W] | (refine r_isF R A ht ?_) | apply And.intro | intro _ | exact wt | exact wa_t W | exact w_shelf_t W | assumption | exact Or.inl rfl | exact Or.inr rfl | rfl | omega | (unfold jR; omega)
theorem c_fresh {Q : Int → JM → Prop} {M : JM} {L r : Int} {f : Int → Int} (S : Sx M (X + 144) 240) (hs : M 2810 (X + 144) 0 = L) (hL : 0 ≤ L ∧ L ≤ 240) (hf : ∀ k, 0 ≤ k → k < L → 0 ≤ f k) (so : SOk M (X + 150) (X + 151) (X + 154) L f) (r0 : 0 ≤ r) (r1 : r < L) (h : Q (frs L f r) M) : Runs G 73 0 0 [(1, X + 144), (0, r)] M Q := by
  refine rn_X8_freshParts _ _ M (sg_X8_freshParts_0 _ _ M ?_)
  have a := odr_ok hf r0 r1
  have b := shr_r hf r0 r1
  rw [S.f5, S.f9, S.t6, S.n6, S.t10, S.n10, show X + 144 + 6 = X + 150 by omega, show X + 144 + 10 = X + 154 by omega, hs, od_eq (od := M 2 (X + 150)) hf so.2.1 r0 r1, sh_eq (od := M 2 (X + 150)) (sh := M 2 (X + 154)) hf so.2.1 so.2.2 r0 r1]
  exact ⟨S.tt, S.tt, ⟨rfl, r0, by omega⟩, by unfold jR; omega, S.tt, ⟨rfl, r0, by omega⟩, by unfold jR; omega, h⟩
theorem st_parts (t : Int) : JSt (IV X) 3072 G X 146 237 [(0, t)] := mk_rl fun n M T K P D C H A hX => by
  by_cases ht : 0 ≤ t ∧ t < T.1
  · obtain ⟨u1, u2, u3⟩ := A.1.2.2 t ht.1 ht.2
    obtain ⟨L, hL⟩ : ∃ L, L = T.2.1 t := ⟨_, rfl⟩
    obtain ⟨f, hf⟩ : ∃ f, f = T.2.2 t := ⟨_, rfl⟩
    rw [← hL] at u1 u2
    rw [← hL, ← hf] at u3
    have hf0 : ∀ k, 0 ≤ k → k < L → 0 ≤ f k := fun k k0 k1 => (u3 k k0 k1).1
    refine ⟨fun r => r = smI (frs L f) L, fun Q hQ => ?_, ?_⟩
    · have W := C.1
      refine rn_X11_parts _ _ M (sg_X11_parts_0 _ _ M ?_)
      rw [wa_1200 W]
      refine ⟨wa_t W, w_shelf_t W, c_lkT C A hX ht (fun _ => ⟨fun q => absurd q (by omega), fun _ => ⟨wa_t W, c_sufOf C H A hX ht (fun N fr c h' e1 e2 _ s so _ => ?_)⟩⟩)⟩
      have S := sx_one c.1
      rw [← hL] at s
      rw [← hL, ← hf] at so
      refine ⟨S.tt, lp_X8_differentParts (fun v0 v1 v2 N' => N = N' ∧ X + 144 = v0 ∧ v1 = smI (frs L f) v2 ∧ 0 ≤ v1 ∧ v1 ≤ 240 * v2 ∧ 0 ≤ v2 ∧ v2 ≤ L) (fun _ _ v2 => (1000 - v2).toNat) ?_ _ N ⟨rfl, rfl, by rw [smI_z (by omega)], by omega, by omega, by omega, by omega⟩⟩
      rintro v0 v1 v2 N' ⟨rfl, rfl, i1, i2, i3, i4, i5⟩
      rw [s]
      refine ⟨S.tt, fun q _ => ?_, fun q => ⟨S.tt, c_fresh S s ⟨u1, u2⟩ hf0 so i4 (by omega) (fun _ => ?_)⟩⟩
      · have : v2 = L := by omega
        subst this
        exact hQ _ N i1 fr c h' e1 e2
      · have a := odr_ok hf0 i4 (show v2 < L by omega)
        have b := shr_r hf0 i4 (show v2 < L by omega)
        have d : frs L f v2 = L - odr L f v2 - shr L f v2 := rfl
        exact ⟨by unfold jR; omega, by unfold jR; omega, ⟨rfl, rfl, by rw [smI_s i4, i1], by omega, by omega, by omega, by omega⟩, by omega⟩
    · rintro M1 Q r rfl R hQ
      have W := R.1
      have wt := w_model_t W
      obtain ⟨a, ha⟩ : ∃ a : Int → Int, a = fun i => Classical.epsilon (fun c => Mxs L f (elf 1 L i) i c) := ⟨_, rfl⟩
      refine lp_X12_parts (fun v0 v1 v2 v3 N => X + 218 = v0 ∧ t = v1 ∧ v2 = smI (fun i => L - i - a i) v3 ∧ 0 ≤ v2 ∧ v2 ≤ 240 * v3 ∧ 0 ≤ v3 ∧ v3 ≤ L ∧ (∀ i, 0 ≤ i → i < v3 → Mxs L f (elf 1 L i) i (a i) ∧ a i + i ≤ L) ∧ Lk X M1 N ∧ Tbl X N L f) (fun _ _ _ v3 => (1000 - v3).toNat) ?_ _ _ M1 ⟨wt, r_isT R A ht (fun _ => ⟨fun _ => ⟨wt, r_look R.1 R.2.1 A.1 ht ht (fun N lk lv _ => ⟨rfl, rfl, by rw [smI_z (by omega)], by omega, by omega, by omega, by omega, fun i i0 i1 => by omega, lk, by rw [hL, hf]; exact lv⟩)⟩, fun z => absurd (by decide) z⟩)⟩
      rintro v0 v1 v2 v3 N ⟨rfl, rfl, i1, i2, i3, i4, i5, i6, i7, i8⟩
      have RN := i7.RI R
      have WN := RN.1
      have wn := w_model_t WN
      obtain ⟨z1, -, z3, -, -⟩ := r_txt RN A ht
      rw [← hL] at z1
      rw [w_model_1301 WN, w_m1301_t WN, w_m1301_n WN, z1]
      refine ⟨wn, ⟨rfl, ht.1, z3⟩, fun q => ?_, fun q => ⟨wn, ⟨rfl, ht.1, z3⟩, by unfold jR; omega, wn, r_else (f := f) RN A ht hL i8 i4 (by omega) (fun c hc cl _ => ?_)⟩⟩
      · have : v3 = L := by omega
        subst this
        rw [i1, parts_eq u1 hf0 i6]
        exact hQ N i7.FrR RN
      · have ec : a v3 = c := by
          rw [ha]
          exact Mxs_uniq (Classical.epsilon_spec (p := fun c => Mxs L f (elf 1 L v3) v3 c) ⟨c, hc⟩) hc
        have c0 := hc.1
        refine ⟨by unfold jR; omega, by unfold jR; omega, by unfold jR; omega, ⟨rfl, rfl, by rw [smI_s i4, i1, ec], by omega, by omega, by omega, by omega, fun i i0 i1 => ?_, i7, i8⟩, by omega⟩
        by_cases hi : i = v3
        · rw [hi, ec]; exact ⟨hc, cl⟩
        · exact i6 i i0 (by omega)
  · refine ⟨fun r => r = -2, fun Q hQ => ?_, ?_⟩
    · have hQ := hQ (-2) M rfl (FrC.refl X M) C H rfl rfl
      have W := C.1
      refine rn_X11_parts _ _ M (sg_X11_parts_0 _ _ M ?_)
      repeat' first | rw [wa_1200 W] | (refine c_lkF C A hX ht ?_) | apply And.intro | intro _ | exact wt | exact wa_t W | exact w_shelf_t W | assumption | exact Or.inl rfl | exact Or.inr rfl | rfl | omega | (unfold jR; omega)
    · rintro M1 Q r rfl R hQ
      have hQ := hQ M1 (FrR.refl X M1) R
      have W := R.1
      have wt := w_model_t W
      refine lp_X12_parts (fun _ _ _ _ _ => False) (fun _ _ _ _ => 0) (fun _ _ _ _ _ g => g.elim) _ _ M1 ?_
      repeat' first | rw [wa_1200 W] | (refine r_isF R A ht ?_) | apply And.intro | intro _ | exact wt | exact wa_t W | exact w_shelf_t W | assumption | exact Or.inl rfl | exact Or.inr rfl | rfl | omega | (unfold jR; omega)
end LYND
