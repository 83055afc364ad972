/-! step: subsequence -/
section SUBS0
variable {G : JG} {X : Int} {Q : Int → JM → Prop} {M : JM}
theorem c_mpF {s b n m i u : Int} {f g : Int → Int} (S : BigT M s) (B : Txf M b m g) (hb : M 1000 b 0 ≠ s + 1) (hn : n ≤ 240) (i0 : 0 ≤ i) (i1 : i < n) (hu : u = f i) (hr : ∀ j, 0 ≤ j → j ≤ m → M 2 (s + 1) ((i + 1) * 241 + j) = cs n f m g (i + 1) j) (he : M 2 (s + 1) (i * 241 + m) = cs n f m g i m) (h : ∀ M', Zof s M M' → (∀ j, i * 241 + m < j → M' 2 (s + 1) j = M 2 (s + 1) j) → (∀ j, 0 ≤ j → j ≤ m → M' 2 (s + 1) (i * 241 + j) = cs n f m g i j) → Q 0 M') : Runs G 56 0 0 [(1, s), (0, i), (0, u), (1, b)] M Q := by
  have bm := B.2.2.1
  refine lp_X7_measurePairsFrom (fun v0 v1 v2 v3 v4 N => s = v0 ∧ i = v1 ∧ u = v2 ∧ b = v3 ∧ -1 ≤ v4 ∧ v4 < m ∧ Zof s M N ∧ (∀ j, i * 241 + m < j → N 2 (s + 1) j = M 2 (s + 1) j) ∧ ∀ j, v4 < j → j ≤ m → N 2 (s + 1) (i * 241 + j) = cs n f m g i j) (fun _ _ _ _ v4 => (v4 + 1).toNat) ?_ _ _ _ _ M ?_
  · rintro v0 v1 v2 v3 v4 N ⟨rfl, rfl, rfl, rfl, k1, k2, k3, k4, k5⟩
    have SN := k3.big S
    have BN := k3.txf B hb
    obtain ⟨s1, s2, s3, s4, s5, s6⟩ := BN
    refine ⟨fun q => h N k3 k4 (fun j j0 j1 => k5 j (by omega) j1), fun q => ?_⟩
    have fin : ∀ v, v = cs n f m g i v4 → (s = s ∧ i = i ∧ u = u ∧ b = b ∧ -1 ≤ v4 + -1 ∧ v4 + -1 < m ∧ Zof s M (jset N 2 (s + 1) (i * 241 + v4) v) ∧ (∀ j, i * 241 + m < j → jset N 2 (s + 1) (i * 241 + v4) v 2 (s + 1) j = M 2 (s + 1) j) ∧ ∀ j, v4 + -1 < j → j ≤ m → jset N 2 (s + 1) (i * 241 + v4) v 2 (s + 1) (i * 241 + j) = cs n f m g i j) := fun v hv => by
      refine ⟨rfl, rfl, rfl, rfl, by omega, by omega, k3.set _ _, fun j j0 => ?_, fun j j0 j1 => ?_⟩
      · rw [jset_j (by omega)]; exact k4 j j0
      · by_cases hj : j = v4
        · rw [hj, jset_s]; exact hv
        · rw [jset_j (by omega)]; exact k5 j (by omega) j1
    have e1 : N 2 (s + 1) (i * 241 + v4 + 241 + 1) = cs n f m g (i + 1) (v4 + 1) := by
      rw [show i * 241 + v4 + 241 + 1 = (i + 1) * 241 + (v4 + 1) by omega, k4 _ (by omega)]
      exact hr (v4 + 1) (by omega) (by omega)
    have e2 : N 2 (s + 1) (i * 241 + v4 + 241) = cs n f m g (i + 1) v4 := by
      rw [show i * 241 + v4 + 241 = (i + 1) * 241 + v4 by omega, k4 _ (by omega)]
      exact hr v4 (by omega) (by omega)
    have e3 : N 2 (s + 1) (i * 241 + v4 + 1) = cs n f m g i (v4 + 1) := by
      rw [show i * 241 + v4 + 1 = i * 241 + (v4 + 1) by omega]
      exact k5 (v4 + 1) (by omega) (by omega)
    have r1 := @cs_r n m (i + 1) (v4 + 1) f g (by omega) (by omega)
    have t1 := SN.1
    rw [SN.2.1, SN.2.2.1, SN.2.2.2, e1, e2, e3, s6 v4 (by omega) k2]
    refine ⟨by unfold jR; omega, by unfold jR; omega, s1, ⟨s4, by omega, by omega⟩, fun e => ⟨t1, t1, by unfold jR; omega, ⟨rfl, by omega, by omega⟩, t1, by unfold jR; omega, ⟨rfl, by omega, by omega⟩, ⟨rfl, by omega, by omega⟩, by unfold jR; omega, fin _ (cs_d i1 k2 (by rw [← hu]; exact e)).symm, by omega⟩, fun e => ⟨t1, t1, by unfold jR; omega, by unfold jR; omega, ⟨rfl, by omega, by omega⟩, by unfold jR; omega, ⟨rfl, by omega, by omega⟩, by unfold jR; omega, fin _ (cs_s i1 k2 (by rw [← hu]; exact Classical.not_not.mp e)).symm, by omega⟩⟩
  · have s2 := B.2.1
    refine ⟨B.1, by rw [s2]; unfold jR; omega, rfl, rfl, rfl, rfl, by omega, by rw [s2]; omega, Zof.refl s M, fun j j0 => rfl, fun j j0 j1 => ?_⟩
    rw [s2] at j0
    have : j = m := by omega
    rw [this]; exact he
theorem c_mp {s a b n m : Int} {f g : Int → Int} (S : BigT M s) (A : Txf M a n f) (B : Txf M b m g) (ha : M 1000 a 0 ≠ s + 1) (hb : M 1000 b 0 ≠ s + 1) (h : ∀ M', Zof s M M' → Dtb M' s n m (cs n f m g) → Q 0 M') : Runs G 55 0 0 [(1, s), (1, a), (1, b)] M Q := by
  have an := A.2.2.1
  have bm := B.2.2.1
  refine lp_X7_measurePairs (fun v0 v1 v2 v3 N => s = v0 ∧ a = v1 ∧ b = v2 ∧ 0 ≤ v3 ∧ v3 ≤ m + 1 ∧ Zof s M N ∧ ∀ j, 0 ≤ j → j < v3 → N 2 (s + 1) (n * 241 + j) = cs n f m g n j) (fun _ _ _ v3 => (10000 - v3).toNat) (fun v0 v1 v2 v3 N => s = v0 ∧ a = v1 ∧ b = v2 ∧ -1 ≤ v3 ∧ v3 < n ∧ Zof s M N ∧ ∀ i j, v3 < i → i ≤ n → 0 ≤ j → j ≤ m → N 2 (s + 1) (i * 241 + j) = cs n f m g i j) (fun _ _ _ v3 => (v3 + 1).toNat) ?_ ?_ _ _ _ M ⟨rfl, rfl, rfl, by omega, by omega, Zof.refl s M, fun j j0 j1 => by omega⟩
  · rintro v0 v1 v2 v3 N ⟨rfl, rfl, rfl, k1, k2, k3, k4⟩
    have SN := k3.big S
    have AN := k3.txf A ha
    have BN := k3.txf B hb
    rw [AN.2.1, BN.2.1, SN.2.1, SN.2.2.1, SN.2.2.2]
    refine ⟨BN.1, fun q => ⟨AN.1, by unfold jR; omega, ⟨rfl, rfl, rfl, by omega, by omega, k3, fun i j i0 i1 j0 j1 => ?_⟩, by omega⟩, fun q => ⟨SN.1, AN.1, by unfold jR; omega, by unfold jR; omega, ⟨rfl, by omega, by omega⟩, by unfold jR; omega, ⟨rfl, rfl, rfl, by omega, by omega, k3.set _ _, fun j j0 j1 => ?_⟩, by omega⟩⟩
    · have : i = n := by omega
      rw [this]; exact k4 j j0 (by omega)
    · by_cases hj : j = v3
      · rw [hj, jset_s, cs_n]
      · rw [jset_j (by omega)]; exact k4 j j0 (by omega)
  · rintro v0 v1 v2 v3 N ⟨rfl, rfl, rfl, k1, k2, k3, k4⟩
    have SN := k3.big S
    have AN := k3.txf A ha
    have BN := k3.txf B hb
    have ea : N 1000 a 0 ≠ s + 1 := by rw [k3 _ _ _ (by omega)]; exact ha
    have eb : N 1000 b 0 ≠ s + 1 := by rw [k3 _ _ _ (by omega)]; exact hb
    rw [BN.2.1, SN.2.1, SN.2.2.1, SN.2.2.2]
    refine ⟨fun q => h N k3 (fun i j i0 i1 j0 j1 => k4 i j (by omega) i1 j0 j1), fun q => ⟨SN.1, by unfold jR; omega, BN.1, by unfold jR; omega, ⟨rfl, by omega, by omega⟩, AN.1, ⟨AN.2.2.2.1, by omega, by have := AN.2.2.2.2.1; omega⟩, SN.1, ?_⟩⟩
    have s1 : Zof s N (jset N 2 (s + 1) (v3 * 241 + m) 0) := (Zof.refl s N).set _ _
    rw [show jset N 2 (s + 1) (v3 * 241 + m) 0 2 (N 1000 a 0) v3 = N 2 (N 1000 a 0) v3 from jset_a ea _ _, AN.2.2.2.2.2 v3 (by omega) k2]
    refine c_mpF (n := n) (m := m) (f := f) (g := g) (s1.big SN) (s1.txf BN eb) (by rw [s1 _ _ _ (by omega)]; exact eb) an.2 (by omega) k2 rfl (fun j j0 j1 => ?_) ?_ (fun M' o1 o2 o3 _ => ⟨by unfold jR; omega, ⟨rfl, rfl, rfl, by omega, by omega, (k3.trans s1).trans o1, fun i j i0 i1 j0 j1 => ?_⟩, by omega⟩)
    · rw [jset_j (by omega)]; exact k4 (v3 + 1) j (by omega) (by omega) j0 j1
    · rw [jset_s, cs_m]
    · by_cases hi : i = v3
      · rw [hi]; exact o3 j j0 j1
      · rw [o2 _ (by omega), jset_j (by omega)]; exact k4 i j (by omega) i1 j0 j1
end SUBS0
def Jcs (X : Int) (M1 : JM) (n m : Int) (F : Int → Int → Int) (N2 : JM) (l : List TR) : Prop := ∃ N1, Tb X M1 N1 ∧ Rtb X N1 n m F ∧ Rof4 X N1 N2 ∧ RD2 X N2 3239 249 250 l
section SUBS
variable {G : JG} {X : Int}
set_option maxHeartbeats 1000000 in
theorem st_subsequence (t s : Int) : JStA (IV X) 3072 G X 155 249 [(0, t), (0, s)] := mk_big (t := t) (s := s) (fun n M T K P D C A hX hv => by
  refine ⟨-2, fun Q hQ => ?_, fun M1 Q R hQ => ?_⟩
  · have W := C.1
    refine rn_X11_subsequence _ _ _ M (sg_X11_subsequence_0 _ _ _ M ?_)
    rw [wa_1200 W]
    by_cases ht : 0 ≤ t ∧ t < T.1
    · have hs : ¬ (0 ≤ s ∧ s < T.1) := fun q => hv ⟨ht, q⟩
      exact ⟨wa_t W, w_shelf_t W, c_lkT C A hX ht (fun _ => by rw [wa_1200 W]; exact ⟨wa_t W, w_shelf_t W, c_lkF C A hX hs (fun _ => ⟨fun _ => hQ, fun _ => ⟨fun _ => hQ, fun q => absurd rfl q⟩⟩)⟩)⟩
    · refine ⟨wa_t W, w_shelf_t W, c_lkF C A hX ht (fun _ => ?_)⟩
      rw [wa_1200 W]
      by_cases hs : 0 ≤ s ∧ s < T.1
      · exact ⟨wa_t W, w_shelf_t W, c_lkT C A hX hs (fun _ => ⟨fun _ => hQ, fun q => absurd rfl q⟩)⟩
      · exact ⟨wa_t W, w_shelf_t W, c_lkF C A hX hs (fun _ => ⟨fun _ => hQ, fun q => absurd rfl q⟩)⟩
  · have wt := w_model_t R.1
    refine lp_X12_subsequence (fun _ _ _ _ _ _ _ => False) (fun _ _ _ _ _ _ => 0) (fun _ _ _ _ _ _ _ _ => False) (fun _ _ _ _ _ _ _ => 0) (fun _ _ _ _ _ _ _ => False) (fun _ _ _ _ _ _ => 0) (fun _ _ _ _ _ _ _ _ _ => False) (fun _ _ _ _ _ _ _ _ => 0) (fun _ _ _ _ _ _ _ z => z.elim) (fun _ _ _ _ _ _ _ _ z => z.elim) (fun _ _ _ _ _ _ _ z => z.elim) (fun _ _ _ _ _ _ _ _ _ z => z.elim) _ _ _ M1 ?_
    by_cases ht : 0 ≤ t ∧ t < T.1
    · have hs : ¬ (0 ≤ s ∧ s < T.1) := fun q => hv ⟨ht, q⟩
      exact ⟨wt, r_isT R A ht (fun _ => ⟨fun q => absurd q (by decide), fun _ => ⟨wt, r_isF R A hs (fun _ => ⟨fun q => absurd rfl q, fun _ => hQ⟩)⟩⟩)⟩
    · exact ⟨wt, r_isF R A ht (fun _ => ⟨fun _ => hQ, fun q => absurd rfl q⟩)⟩) (fun n M T K P D C H A hX ht hs => by
  obtain ⟨a, ha⟩ : ∃ a, a = T.2.1 t := ⟨_, rfl⟩
  obtain ⟨f, hf⟩ : ∃ f, f = T.2.2 t := ⟨_, rfl⟩
  obtain ⟨m, hm⟩ : ∃ m, m = T.2.1 s := ⟨_, rfl⟩
  obtain ⟨g, hg⟩ : ∃ g, g = T.2.2 s := ⟨_, rfl⟩
  obtain ⟨u1, u2, -⟩ := A.1.2.2 t ht.1 ht.2
  obtain ⟨w1, w2, -⟩ := A.1.2.2 s hs.1 hs.2
  rw [← ha] at u1 u2
  rw [← hm] at w1 w2
  have ini := Pk.init (f := f) (g := g) u1 w1
  obtain ⟨L, hL⟩ : ∃ L, L = prF a f m g a.toNat 0 0 := ⟨_, rfl⟩
  rw [← hL] at ini
  have ads : ∀ l, AI T K P (dset D 4 l) := fun l => ⟨A.1, A.2.1, A.2.2.1, A.2.2.2.put (by decide) (by decide)⟩
  refine ⟨L.length, dset D 4 L, ads L, fun c z b Q hd hQ => ?_, fun M1 Q R hQ => ?_⟩
  · have W := C.1
    refine rn_X11_subsequence _ _ _ M (sg_X11_subsequence_0 _ _ _ M ?_)
    rw [wa_1200 W]
    refine ⟨wa_t W, w_shelf_t W, c_lkT C A hX ht (fun _ => ?_)⟩
    rw [wa_1200 W]
    refine ⟨wa_t W, w_shelf_t W, c_lkT C A hX hs (fun _ => ⟨fun q => absurd q (by omega), fun _ => ⟨fun q => absurd q (by omega), fun _ => ⟨wa_t W, c, z, by omega, by omega, hd _ (fun N fr c1 h1 e1 e2 nb _ => ?_)⟩⟩⟩)⟩
    obtain ⟨sb, S⟩ := c_big c1 e2 nb
    have A1 := c_tf c1 A ht
    have B1 := c_tf c1 A hs
    rw [← ha, ← hf] at A1
    rw [← hm, ← hg] at B1
    have ea : N 1000 (X + (4 + 2 * t)) 0 ≠ b + 1 := by have := (c_txt c1 A ht).2.2.1; have := A.1.2.1; omega
    have eb : N 1000 (X + (4 + 2 * s)) 0 ≠ b + 1 := by have := (c_txt c1 A hs).2.2.1; have := A.1.2.1; omega
    rw [wa_1211 c1.1]
    refine ⟨wa_t c1.1, S.1, ?_⟩
    have base : ∀ N1 N2 l, Zof b N N1 → Tof (X + 216) (X + 217) N1 N2 → TdL N2 (X + 216) (X + 217) 2 240 l → CB X n N2 T K P (dset D 4 l) ∧ BigT N2 b ∧ Txf N2 (X + (4 + 2 * t)) a f ∧ Txf N2 (X + (4 + 2 * s)) m g := fun N1 N2 l o1 o2 td => by
      have q1 := o1.cb c1 A sb
      have q2 := q1.tl A (o2.tl (by omega) (by omega)) (q1.2.2.2.2.2.1.put4 o2 td)
      have A2 := c_tf q2 (ads l) ht
      have B2 := c_tf q2 (ads l) hs
      rw [← ha, ← hf] at A2
      rw [← hm, ← hg] at B2
      exact ⟨q2, (o1.big S).keepN fun k x j x0 x1 => o2 k x j (by omega) (by omega), A2, B2⟩
    refine lp_X7_tellPairs (fun v0 v1 v2 v3 v4 v5 N2 => b = v0 ∧ X + (4 + 2 * t) = v1 ∧ X + (4 + 2 * s) = v2 ∧ X + 216 = v3 ∧ ∃ N1 l, Zof b N N1 ∧ Dtb N1 b a m (cs a f m g) ∧ Tof (X + 216) (X + 217) N1 N2 ∧ TdL N2 (X + 216) (X + 217) 2 240 l ∧ Pk a f m g L l v5 v4) (fun _ _ _ _ _ v5 => ((a - v5) * 1000 + 500).toNat) (fun v0 v1 v2 v3 v4 v5 v6 N2 => b = v0 ∧ X + (4 + 2 * t) = v1 ∧ X + (4 + 2 * s) = v2 ∧ X + 216 = v3 ∧ v5 < a ∧ v4 ≤ v6 ∧ v6 ≤ m ∧ (∀ k, v4 ≤ k → k < v6 → f v5 ≠ g k) ∧ ∃ N1 l, Zof b N N1 ∧ Dtb N1 b a m (cs a f m g) ∧ Tof (X + 216) (X + 217) N1 N2 ∧ TdL N2 (X + 216) (X + 217) 2 240 l ∧ Pk a f m g L l v5 v4) (fun _ _ _ _ _ v5 v6 => ((a - v5) * 1000 + m - v6).toNat) ?_ ?_ _ _ _ _ N ?_
    · rintro v0 v1 v2 v3 v4 v5 N2 ⟨rfl, rfl, rfl, rfl, N1, l, k1, k2, k3, k4, k5⟩
      obtain ⟨c2, S2, A2, B2⟩ := base N1 N2 l k1 k3 k4
      have W2 := c2.1
      obtain ⟨⟨b1, b2, b3, b4, b5⟩, -⟩ := id k5
      rw [A2.2.1]
      refine ⟨A2.1, fun q _ => ?_, fun q => ⟨⟨rfl, rfl, rfl, rfl, by omega, by omega, b4, fun k x0 x1 => by omega, N1, l, k1, k2, k3, k4, k5⟩, by omega⟩⟩
      have e5 : v5 = a := by omega
      have e1' := k5.stop (by rw [e5]; exact cs_n)
      subst e1'
      rw [wa_1211 W2, k4.2.2.1.1]
      exact ⟨wa_t W2, w_tpairs_t W2, jends_in (by omega) (by omega) (hQ N2 (fr.trans (fun k x j x0 x1 => by rw [k3 k x j (by omega) (by omega)]; exact k1 k x j (by omega))) c2 ((k1.ch c1 h1 sb e2 hX).tl (k1.cb c1 A sb).2.2.2.2.2.2 (k3.tl (by omega) (by omega))) (by rw [k3 _ _ _ (by omega) (by omega), k1 _ _ _ (by omega)]; exact e1) (by rw [k3 _ _ _ (by omega) (by omega), k1 _ _ _ (by omega)]; exact e2))⟩
    · rintro v0 v1 v2 v3 v4 v5 v6 N2 ⟨rfl, rfl, rfl, rfl, i1, i2, i3, i4, N1, l, k1, k2, k3, k4, k5⟩
      obtain ⟨c2, S2, A2, B2⟩ := base N1 N2 l k1 k3 k4
      have W2 := c2.1
      obtain ⟨⟨b1, b2, b3, b4, b5⟩, -⟩ := id k5
      have td := w_tpairs_t W2
      have d2 : Dtb N2 b a m (cs a f m g) := fun i j i0 i1 j0 j1 => by rw [k3 _ _ _ (by omega) (by omega)]; exact k2 i j i0 i1 j0 j1
      rw [B2.2.1]
      refine ⟨B2.1, fun q => ⟨B2.1, fun _ => ⟨by unfold jR; omega, ⟨rfl, rfl, rfl, rfl, N1, l, k1, k2, k3, k4, k5.no i1 (fun ⟨x, x0, x1, x2, _⟩ => i4 x x0 (by omega) x2)⟩, by omega⟩, fun q2 => absurd q q2⟩, fun q => ⟨B2.1, ⟨B2.2.2.2.1, by omega, by have := B2.2.2.2.2.1; omega⟩, A2.1, ⟨A2.2.2.2.1, b1, by have := A2.2.2.2.2.1; omega⟩, ?_⟩⟩
      rw [B2.2.2.2.2.2 v6 (by omega) (by omega), A2.2.2.2.2.2 v5 b1 i1]
      refine ⟨fun e => ⟨B2.1, fun q2 => absurd q2 q, fun _ => ?_⟩, fun e => ⟨by unfold jR; omega, ⟨rfl, rfl, rfl, rfl, i1, by omega, by omega, fun k x0 x1 => ?_, N1, l, k1, k2, k3, k4, k5⟩, by omega⟩⟩
      · have ff := fel_first (n := a) (m := m) (f := f) (g := g) i1 i2 (show v6 < m by omega) i4 e.symm
        have t1 := d2 (v5 + 1) (v6 + 1) (by omega) (by omega) (by omega) (by omega)
        have t2 := d2 v5 v4 b1 b2 b3 b4
        rw [show (v5 + 1) * 241 + (v6 + 1) = (v5 + 1) * 241 + v6 + 1 by omega] at t1
        have r1 := @cs_r a m (v5 + 1) (v6 + 1) f g (by omega) (by omega)
        rw [S2.2.1, S2.2.2.1, S2.2.2.2, t1, t2]
        refine ⟨S2.1, by unfold jR; omega, by unfold jR; omega, by unfold jR; omega, by unfold jR; omega, ⟨rfl, by omega, by omega⟩, by unfold jR; omega, S2.1, by unfold jR; omega, by unfold jR; omega, ⟨rfl, by omega, by omega⟩, fun ne => ⟨by unfold jR; omega, ⟨rfl, rfl, rfl, rfl, N1, l, k1, k2, k3, k4, k5.no i1 (fun z => ne (ff.mp z))⟩, by omega⟩, fun ne => ⟨td, c_add k4 (by omega) (fun N3 o t3 _ => ⟨by unfold jR; omega, by unfold jR; omega, ⟨rfl, rfl, rfl, rfl, N1, _, k1, k2, k3.trans o, t3, k5.yes i1 ⟨i2, by omega, e.symm, ?_, fun k x0 x1 z => i4 k x0 x1 z.1⟩⟩, by omega⟩)⟩⟩
        have := Classical.not_not.mp ne
        omega
      · by_cases hk : k = v6
        · rw [hk]; exact fun z => e z.symm
        · exact i4 k x0 (by omega)
    · refine ⟨S.1, c_mp S A1 B1 ea eb (fun N1 o1 d1 _ => ?_)⟩
      have q1 := o1.cb c1 A sb
      exact ⟨w_tpairs_t q1.1, c_clear q1.2.2.2.2.2.1.2.2.2.2.1 (fun N2 o2 t2 _ => ⟨rfl, rfl, rfl, rfl, N1, [], o1, d1, o2, t2, ini⟩)⟩
  · have W := R.1
    have wt := w_model_t W
    obtain ⟨z1, -, z3, -, -⟩ := r_txt R A ht
    obtain ⟨y1, -, y3, -, -⟩ := r_txt R A hs
    rw [← ha] at z1
    rw [← hm] at y1
    have base : ∀ N1 N2 l, Tb X M1 N1 → Rof4 X N1 N2 → RD2 X N2 3239 249 250 l → RI X N2 T K P (dset D 4 l) := fun N1 N2 l o1 o2 rd => (o1.RI R).tl o2.tl ((o1.RI R).2.2.2.2.put4 o2 rd)
    have jt : ∀ N2 l, Jcs X M1 a m (cs a f m g) N2 l → Rtb X N2 a m (cs a f m g) ∧ RI X N2 T K P (dset D 4 l) ∧ FrR X M1 N2 := fun N2 l ⟨N1, o1, o2, o3, o4⟩ => ⟨fun i j i0 i1 j0 j1 => by rw [o3 _ _ _ (by omega) (by omega)]; exact o2 i j i0 i1 j0 j1, base N1 N2 l o1 o3 o4, o1.FrR.trans (FrR.tl o3.tl)⟩
    refine lp_X12_subsequence
      (fun v0 v1 v2 v3 v4 v5 N => X + 218 = v0 ∧ t = v1 ∧ s = v2 ∧ a = v3 ∧ m = v4 ∧ -1 ≤ v5 ∧ v5 ≤ a ∧ Tb X M1 N ∧ ∀ i j, v5 < i → i ≤ a → 0 ≤ j → j ≤ m → N 2 (X + 245) (241 * i + j) = cs a f m g i j) (fun _ _ _ _ _ v5 => (10000000 + v5 * 1000 + 500).toNat)
      (fun v0 v1 v2 v3 v4 v5 v6 N => X + 218 = v0 ∧ t = v1 ∧ s = v2 ∧ a = v3 ∧ m = v4 ∧ 0 ≤ v5 ∧ v5 ≤ a ∧ -1 ≤ v6 ∧ v6 ≤ m ∧ Tb X M1 N ∧ (∀ i j, v5 < i → i ≤ a → 0 ≤ j → j ≤ m → N 2 (X + 245) (241 * i + j) = cs a f m g i j) ∧ ∀ j, v6 < j → j ≤ m → N 2 (X + 245) (241 * v5 + j) = cs a f m g v5 j) (fun _ _ _ _ _ v5 v6 => (10000000 + v5 * 1000 + v6 + 1).toNat)
      (fun v0 v1 v2 v4 v5 v6 N => X + 218 = v0 ∧ t = v1 ∧ s = v2 ∧ m = v4 ∧ ∃ l, Jcs X M1 a m (cs a f m g) N l ∧ Pk a f m g L l v5 v6) (fun _ _ _ _ v5 _ => ((a - v5) * 1000 + 500).toNat)
      (fun v0 v1 v2 v4 v5 v6 v7 v8 N => X + 218 = v0 ∧ t = v1 ∧ s = v2 ∧ m = v4 ∧ v5 < a ∧ v7 = cs a f m g v5 v6 ∧ v6 ≤ v8 ∧ v8 ≤ m ∧ (∀ k, v6 ≤ k → k < v8 → ¬ (f v5 = g k ∧ cs a f m g (v5 + 1) (k + 1) = cs a f m g v5 v6 - 1)) ∧ ∃ l, Jcs X M1 a m (cs a f m g) N l ∧ Pk a f m g L l v5 v6) (fun _ _ _ _ v5 _ _ v8 => ((a - v5) * 1000 + m - v8).toNat)
      ?_ ?_ ?_ ?_ _ _ _ M1 ?_
    · rintro v0 v1 v2 v3 v4 v5 N ⟨rfl, rfl, rfl, rfl, rfl, k1, k2, k3, k4⟩
      have wn := w_model_t (k3.RI R).1
      refine ⟨fun q => ⟨wn, ⟨rfl, rfl, rfl, rfl, [], ⟨N, k3, fun i j i0 i1 j0 j1 => k4 i j (by omega) i1 j0 j1, fun k x j q1 q2 => if_neg (fun z => q1 ⟨z.1, z.2.1⟩), jset_s, fun k k0 k1 => by have k1 : k < ((0 : Nat) : Int) := k1; omega⟩, ini⟩, by omega⟩, fun q => ⟨⟨rfl, rfl, rfl, rfl, rfl, by omega, k2, by omega, by omega, k3, k4, fun j j0 j1 => by omega⟩, by omega⟩⟩
    · rintro v0 v1 v2 v3 v4 v5 v6 N ⟨rfl, rfl, rfl, rfl, rfl, k1, k2, k2', k2'', k3, k4, k5⟩
      have RN := k3.RI R
      have WN := RN.1
      have wn := w_model_t WN
      have tt := w_m1334_t WN
      have tn := w_m1334_n WN
      rw [w_model_1334 WN, tt, tn]
      have fin : ∀ v, v = cs a f m g v5 v6 → 0 ≤ v6 → (X + 218 = X + 218 ∧ t = t ∧ s = s ∧ a = a ∧ m = m ∧ 0 ≤ v5 ∧ v5 ≤ a ∧ -1 ≤ v6 + -1 ∧ v6 + -1 ≤ m ∧ Tb X M1 (jset N 2 (X + 245) (241 * v5 + v6) v) ∧ (∀ i j, v5 < i → i ≤ a → 0 ≤ j → j ≤ m → jset N 2 (X + 245) (241 * v5 + v6) v 2 (X + 245) (241 * i + j) = cs a f m g i j) ∧ ∀ j, v6 + -1 < j → j ≤ m → jset N 2 (X + 245) (241 * v5 + v6) v 2 (X + 245) (241 * v5 + j) = cs a f m g v5 j) := fun v hv h0 => by
        refine ⟨rfl, rfl, rfl, rfl, rfl, k1, k2, by omega, by omega, k3.set _ _, fun i j i0 i1 j0 j1 => ?_, fun j j0 j1 => ?_⟩
        · rw [jset_j (by omega)]; exact k4 i j i0 i1 j0 j1
        · by_cases hj : j = v6
          · rw [hj, jset_s]; exact hv
          · rw [jset_j (by omega)]; exact k5 j (by omega) j1
      refine ⟨fun q => ⟨by unfold jR; omega, ⟨rfl, rfl, rfl, rfl, rfl, by omega, by omega, k3, fun i j i0 i1 j0 j1 => ?_⟩, by omega⟩, fun q => ⟨by unfold jR; omega, by unfold jR; omega, fun e => ?_, fun e => ⟨fun e2 => ?_, fun e2 => ?_⟩⟩⟩
      · by_cases hi : i = v5
        · rw [hi]; exact k5 j (by omega) j1
        · exact k4 i j (by omega) i1 j0 j1
      · exact ⟨wn, ⟨rfl, by omega, by omega⟩, by unfold jR; omega, fin _ (by rw [e, cs_n]) (by omega), by omega⟩
      · have e4 : N 2 (X + 245) (241 * v5 + v6 + 241 + 1) = cs a f m g (v5 + 1) (v6 + 1) := by
          rw [show 241 * v5 + v6 + 241 + 1 = 241 * (v5 + 1) + (v6 + 1) by omega]; exact k4 _ _ (by omega) (by omega) (by omega) (by omega)
        have e5 : N 2 (X + 245) (241 * v5 + v6 + 241) = cs a f m g (v5 + 1) v6 := by
          rw [show 241 * v5 + v6 + 241 = 241 * (v5 + 1) + v6 by omega]; exact k4 _ _ (by omega) (by omega) (by omega) (by omega)
        have e6 : N 2 (X + 245) (241 * v5 + v6 + 1) = cs a f m g v5 (v6 + 1) := by
          rw [show 241 * v5 + v6 + 1 = 241 * v5 + (v6 + 1) by omega]; exact k5 _ (by omega) (by omega)
        have r1 := @cs_r a m (v5 + 1) (v6 + 1) f g (by omega) (by omega)
        rw [e5, e6]
        refine ⟨wn, by unfold jR; omega, ⟨rfl, by omega, by omega⟩, wn, by unfold jR; omega, ⟨rfl, by omega, by omega⟩, fun le => ⟨wn, by unfold jR; omega, ⟨rfl, by omega, by omega⟩, wn, wn, r_un RN A ht k1 (by omega) (fun _ => ⟨wn, r_un RN A hs (by omega) (by omega) (fun _ => ?_)⟩)⟩, fun le => ⟨wn, by unfold jR; omega, ⟨rfl, by omega, by omega⟩, wn, wn, r_un RN A ht k1 (by omega) (fun _ => ⟨wn, r_un RN A hs (by omega) (by omega) (fun _ => ?_)⟩)⟩⟩
        all_goals
          rw [w_model_1334 WN, tt, tn, e4, ← hf, ← hg]
          refine ⟨fun ne => ?_, fun ne => ?_⟩
          · have d := cs_d (f := f) (g := g) (show v5 < a by omega) (show v6 < m by omega) ne
            exact ⟨⟨rfl, by omega, by omega⟩, by unfold jR; omega, fin _ (by omega) (by omega), by omega⟩
          · have d := cs_s (f := f) (g := g) (show v5 < a by omega) (show v6 < m by omega) (Classical.not_not.mp ne)
            exact ⟨wn, by unfold jR; omega, by unfold jR; omega, ⟨rfl, by omega, by omega⟩, by unfold jR; omega, ⟨rfl, by omega, by omega⟩, by unfold jR; omega, fin _ (by omega) (by omega), by omega⟩
      · have e2 := Classical.not_not.mp e2
        exact ⟨wn, ⟨rfl, by omega, by omega⟩, by unfold jR; omega, fin _ (by rw [e2, cs_m]) (by omega), by omega⟩
    · rintro v0 v1 v2 v4 v5 v6 N ⟨rfl, rfl, rfl, rfl, l, j1, k5⟩
      obtain ⟨tb, RN, fr⟩ := jt N l j1
      have WN := RN.1
      have wn := w_model_t WN
      obtain ⟨⟨b1, b2, b3, b4, b5⟩, -⟩ := id k5
      have r0 := @cs_r a m v5 v6 f g b2 b4
      rw [w_model_1334 WN, w_m1334_t WN, w_m1334_n WN, tb v5 v6 b1 b2 b3 b4]
      refine ⟨wn, by unfold jR; omega, by unfold jR; omega, ⟨rfl, by omega, by omega⟩, fun q => ?_, fun q => ⟨wn, by unfold jR; omega, by unfold jR; omega, ⟨rfl, by omega, by omega⟩, ⟨rfl, rfl, rfl, rfl, by omega, rfl, by omega, b4, fun k x0 x1 => by omega, l, j1, k5⟩, by omega⟩⟩
      have e1 := k5.stop (by omega)
      subst e1
      obtain ⟨N1, o1, o2, o3, rd⟩ := j1
      rw [rd.1]
      exact ⟨wn, hQ N fr RN⟩
    · rintro v0 v1 v2 v4 v5 v6 v7 v8 N ⟨rfl, rfl, rfl, rfl, i1, rfl, i2, i3, i4, l, j1, k5⟩
      obtain ⟨tb, RN, fr⟩ := jt N l j1
      have WN := RN.1
      have wn := w_model_t WN
      have An := ads l
      obtain ⟨⟨b1, b2, b3, b4, b5⟩, -⟩ := id k5
      obtain ⟨N1, o1, o2, o3, rd⟩ := id j1
      have en := rd.1
      refine ⟨fun q => ⟨fun _ => ⟨by unfold jR; omega, ⟨rfl, rfl, rfl, rfl, l, j1, k5.no i1 (fun ⟨x, x0, x1, x2, x3, _⟩ => i4 x x0 (by omega) ⟨x2, x3⟩)⟩, by omega⟩, fun q2 => absurd q q2⟩, fun q => ⟨wn, r_un RN An ht b1 (by omega) (fun _ => ⟨wn, r_un RN An hs (by omega) (by omega) (fun _ => ?_)⟩)⟩⟩
      have nx : ¬ (f v5 = g v8 ∧ cs a f m g (v5 + 1) (v8 + 1) = cs a f m g v5 v6 - 1) → ∀ k, v6 ≤ k → k < v8 + 1 → ¬ (f v5 = g k ∧ cs a f m g (v5 + 1) (k + 1) = cs a f m g v5 v6 - 1) := fun z k x0 x1 => by
        by_cases hk : k = v8
        · rw [hk]; exact z
        · exact i4 k x0 (by omega)
      have t1 := tb (v5 + 1) (v8 + 1) (by omega) (by omega) (by omega) (by omega)
      rw [show 241 * (v5 + 1) + (v8 + 1) = 241 * (v5 + 1) + v8 + 1 by omega] at t1
      have r1 := @cs_r a m v5 v6 f g (by omega) (by omega)
      rw [w_model_1334 WN, w_m1334_t WN, w_m1334_n WN, w_model_1340 WN, w_m1340_t WN, w_m1340_n WN, w_model_1341 WN, w_m1341_t WN, w_m1341_n WN, en, t1, ← hf, ← hg]
      refine ⟨fun ne => ⟨by unfold jR; omega, ⟨rfl, rfl, rfl, rfl, i1, rfl, by omega, by omega, nx (fun z => ne z.1), l, j1, k5⟩, by omega⟩, fun ne => ⟨wn, by unfold jR; omega, by unfold jR; omega, by unfold jR; omega, by unfold jR; omega, ⟨rfl, by omega, by omega⟩, by unfold jR; omega, fun e => ⟨fun q2 => absurd q2 q, fun _ => ⟨wn, wn, ⟨rfl, by omega, by omega⟩, wn, wn, ⟨rfl, by omega, by omega⟩, wn, by unfold jR; omega, wn, by unfold jR; omega, by unfold jR; omega, ⟨rfl, rfl, rfl, rfl, _, ⟨N1, o1, o2, o3.trans (fun k x j q1 q2 => ?_), rd.app (by decide) (by decide)⟩, k5.yes i1 ⟨i2, by omega, Classical.not_not.mp ne, e, i4⟩⟩, by omega⟩⟩, fun e => ⟨by unfold jR; omega, ⟨rfl, rfl, rfl, rfl, i1, rfl, by omega, by omega, nx (fun z => e z.2), l, j1, k5⟩, by omega⟩⟩⟩
      rw [show jset (jset (jset N 2 (X + 249) _ v5) 2 (X + 250) _ v8) 3239 (X + 218) 0 _ k x j = _ from if_neg (by omega), show jset (jset N 2 (X + 249) _ v5) 2 (X + 250) _ v8 k x j = _ from if_neg (by omega)]
      exact if_neg (by omega)
    · refine ⟨wt, r_isT R A ht (fun _ => ⟨fun q => absurd q (by decide), fun _ => ⟨wt, r_isT R A hs (fun _ => ⟨fun _ => ?_, fun q => absurd (by decide) q⟩)⟩⟩)⟩
      rw [w_model_1301 W, w_m1301_t W, w_m1301_n W, z1, y1]
      exact ⟨wt, ⟨rfl, ht.1, z3⟩, wt, ⟨rfl, hs.1, y3⟩, rfl, rfl, rfl, rfl, rfl, by omega, by omega, Tb.refl X M1, fun i j i0 i1 => by omega⟩)
end SUBS
