/-! the large table of steps; step: distance -/
/-- only the ints of the large table have changed -/
def Zof (s : Int) (M M' : JM) : Prop := ∀ (k : Nat) (a j : Int), ¬ (k = 2 ∧ a = s + 1) → M' k a j = M k a j
theorem Zof.refl (s : Int) (M : JM) : Zof s M M := fun _ _ _ _ => rfl
theorem Zof.trans {s : Int} {M M' M'' : JM} (h : Zof s M M') (g : Zof s M' M'') : Zof s M M'' := fun k a j q => (g k a j q).trans (h k a j q)
theorem Zof.set {s : Int} {M M' : JM} (h : Zof s M M') (j v : Int) : Zof s M (jset M' 2 (s + 1) j v) := fun k a i q => by
  rw [show jset M' 2 (s + 1) j v k a i = M' k a i from if_neg (fun z => q ⟨z.1, z.2.1⟩)]
  exact h k a i q
theorem Zof.big {s : Int} {M M' : JM} (h : Zof s M M') (b : BigT M s) : BigT M' s := ⟨by rw [h _ _ _ (by omega)]; exact b.1, by rw [h _ _ _ (by omega)]; exact b.2.1, by rw [h _ _ _ (by omega)]; exact b.2.2.1, by rw [h _ _ _ (by omega)]; exact b.2.2.2⟩
theorem Zof.txf {s a n : Int} {M M' : JM} {f : Int → Int} (h : Zof s M M') (t : Txf M a n f) (ha : M 1000 a 0 ≠ s + 1) : Txf M' a n f := by
  obtain ⟨t1, t2, t3, t4, t5, t6⟩ := t
  have e : M' 1000 a 0 = M 1000 a 0 := h _ _ _ (by omega)
  exact ⟨by rw [h _ _ _ (by omega)]; exact t1, by rw [h _ _ _ (by omega)]; exact t2, t3, by rw [e, h _ _ _ (by omega)]; exact t4, by rw [e, h _ _ _ (by omega)]; exact t5, fun i i0 i1 => by rw [e, h _ _ _ (by omega)]; exact t6 i i0 i1⟩
def Dtb (M : JM) (s n m : Int) (F : Int → Int → Int) : Prop := ∀ i j, 0 ≤ i → i ≤ n → 0 ≤ j → j ≤ m → M 2 (s + 1) (i * 241 + j) = F i j
section DIST
variable {G : JG} {X : Int} {Q : Int → JM → Prop} {M : JM}
theorem c_isSame {a b n m i j : Int} {f g : Int → Int} (A : Txf M a n f) (B : Txf M b m g) (i0 : 0 ≤ i) (j0 : 0 ≤ j) (h1 : i < n → j < m → f i = g j → Q 1 M) (h0 : ¬ (i < n ∧ j < m ∧ f i = g j) → Q 0 M) : Runs G 50 0 0 [(1, a), (0, i), (1, b), (0, j)] M Q := by
  obtain ⟨t1, t2, t3, t4, t5, t6⟩ := A
  obtain ⟨s1, s2, s3, s4, s5, s6⟩ := B
  refine rn_X7_isSame _ _ _ _ M (sg_X7_isSame_0 _ _ _ _ M ?_)
  rw [t2, s2]
  refine ⟨t1, fun q => ⟨Or.inl rfl, h0 (by omega)⟩, fun q => ⟨s1, fun q2 => ⟨Or.inl rfl, h0 (by omega)⟩, fun q2 => ⟨t1, ⟨t4, i0, by omega⟩, s1, ⟨s4, j0, by omega⟩, ?_⟩⟩⟩
  rw [t6 i i0 (by omega), s6 j j0 (by omega)]
  exact ⟨fun e => ⟨Or.inl rfl, h0 (fun z => e z.2.2)⟩, fun e => ⟨Or.inr rfl, h1 (by omega) (by omega) (Classical.not_not.mp e)⟩⟩
theorem c_wayOn {s a b n m i j : Int} {f g : Int → Int} (S : BigT M s) (A : Txf M a n f) (B : Txf M b m g) (d : Dtb M s n m (ds n f m g)) (i0 : 0 ≤ i) (i1 : i ≤ n) (j0 : 0 ≤ j) (j1 : j ≤ m) (h : Q (way n f m g i j) M) : Runs G 53 0 0 [(1, s), (1, a), (0, i), (1, b), (0, j)] M Q := by
  obtain ⟨t1, t2, t3, -⟩ := A
  obtain ⟨s1, s2, s3, -⟩ := B
  refine rn_X7_wayOn _ _ _ _ _ M (sg_X7_wayOn_0 _ _ _ _ _ M ?_)
  rw [t2, s2, S.2.1, S.2.2.1, S.2.2.2]
  unfold way at h
  by_cases c1 : i = n
  · rw [if_pos c1] at h
    exact ⟨t1, fun q => absurd c1 q, fun _ => h⟩
  · rw [if_neg c1] at h
    by_cases c2 : j = m
    · rw [if_pos c2] at h
      exact ⟨t1, fun _ => ⟨s1, fun q => absurd c2 q, fun _ => h⟩, fun q => absurd c1 q⟩
    · rw [if_neg c2] at h
      have e0 := d i j i0 i1 j0 j1
      have e1 := d (i + 1) (j + 1) (by omega) (by omega) (by omega) (by omega)
      have e2 := d (i + 1) j (by omega) (by omega) (by omega) (by omega)
      rw [show (i + 1) * 241 + (j + 1) = i * 241 + j + 241 + 1 by omega] at e1
      rw [show (i + 1) * 241 + j = i * 241 + j + 241 by omega] at e2
      have r0 := @ds_r n m i j f g i1 j1
      rw [e0, e1, e2]
      refine ⟨t1, fun _ => ⟨s1, fun _ => ⟨by unfold jR; omega, by unfold jR; omega, S.1, ⟨rfl, by omega, by omega⟩, by unfold jR; omega, S.1, by unfold jR; omega, by unfold jR; omega, ⟨rfl, by omega, by omega⟩, fun q => ?_, fun q => ?_⟩, fun q => absurd c2 q⟩, fun q => absurd c1 q⟩
      · rw [if_neg q] at h
        exact ⟨S.1, by unfold jR; omega, ⟨rfl, by omega, by omega⟩, fun q2 => by rw [if_neg q2] at h; exact h, fun q2 => by rw [if_pos (Classical.not_not.mp q2)] at h; exact h⟩
      · rw [if_pos (Classical.not_not.mp q)] at h; exact h
theorem c_mdF {s b n m i u : Int} {f g : Int → Int} (S : BigT M s) (B : Txf M b m g) (hb : M 1000 b 0 ≠ s + 1) (hn : n ≤ 240) (i0 : 0 ≤ i) (i1 : i < n) (hu : u = f i) (hr : ∀ j, 0 ≤ j → j ≤ m → M 2 (s + 1) ((i + 1) * 241 + j) = ds n f m g (i + 1) j) (he : M 2 (s + 1) (i * 241 + m) = ds n f m g i m) (h : ∀ M', Zof s M M' → (∀ j, i * 241 + m < j → M' 2 (s + 1) j = M 2 (s + 1) j) → (∀ j, 0 ≤ j → j ≤ m → M' 2 (s + 1) (i * 241 + j) = ds n f m g i j) → Q 0 M') : Runs G 52 0 0 [(1, s), (0, i), (0, u), (1, b)] M Q := by
  have bm := B.2.2.1
  refine lp_X7_measureDistancesFrom (fun v0 v1 v2 v3 v4 N => s = v0 ∧ i = v1 ∧ u = v2 ∧ b = v3 ∧ -1 ≤ v4 ∧ v4 < m ∧ Zof s M N ∧ (∀ j, i * 241 + m < j → N 2 (s + 1) j = M 2 (s + 1) j) ∧ ∀ j, v4 < j → j ≤ m → N 2 (s + 1) (i * 241 + j) = ds n f m g i j) (fun _ _ _ _ v4 => (v4 + 1).toNat) ?_ _ _ _ _ M ?_
  · rintro v0 v1 v2 v3 v4 N ⟨rfl, rfl, rfl, rfl, k1, k2, k3, k4, k5⟩
    have SN := k3.big S
    have BN := k3.txf B hb
    obtain ⟨s1, s2, s3, s4, s5, s6⟩ := BN
    refine ⟨fun q => h N k3 k4 (fun j j0 j1 => k5 j (by omega) j1), fun q => ?_⟩
    have fin : ∀ v, v = ds n f m g i v4 → (s = s ∧ i = i ∧ u = u ∧ b = b ∧ -1 ≤ v4 + -1 ∧ v4 + -1 < m ∧ Zof s M (jset N 2 (s + 1) (i * 241 + v4) v) ∧ (∀ j, i * 241 + m < j → jset N 2 (s + 1) (i * 241 + v4) v 2 (s + 1) j = M 2 (s + 1) j) ∧ ∀ j, v4 + -1 < j → j ≤ m → jset N 2 (s + 1) (i * 241 + v4) v 2 (s + 1) (i * 241 + j) = ds n f m g i j) := fun v hv => by
      refine ⟨rfl, rfl, rfl, rfl, by omega, by omega, k3.set _ _, fun j j0 => ?_, fun j j0 j1 => ?_⟩
      · rw [jset_j (by omega)]; exact k4 j j0
      · by_cases hj : j = v4
        · rw [hj, jset_s]; exact hv
        · rw [jset_j (by omega)]; exact k5 j (by omega) j1
    have e1 : N 2 (s + 1) (i * 241 + v4 + 241 + 1) = ds n f m g (i + 1) (v4 + 1) := by
      rw [show i * 241 + v4 + 241 + 1 = (i + 1) * 241 + (v4 + 1) by omega, k4 _ (by omega)]
      exact hr (v4 + 1) (by omega) (by omega)
    have e2 : N 2 (s + 1) (i * 241 + v4 + 241) = ds n f m g (i + 1) v4 := by
      rw [show i * 241 + v4 + 241 = (i + 1) * 241 + v4 by omega, k4 _ (by omega)]
      exact hr v4 (by omega) (by omega)
    have e3 : N 2 (s + 1) (i * 241 + v4 + 1) = ds n f m g i (v4 + 1) := by
      rw [show i * 241 + v4 + 1 = i * 241 + (v4 + 1) by omega]
      exact k5 (v4 + 1) (by omega) (by omega)
    have r1 := @ds_r n m (i + 1) (v4 + 1) f g (by omega) (by omega)
    have r2 := @ds_r n m (i + 1) v4 f g (by omega) (by omega)
    have r3 := @ds_r n m i (v4 + 1) f g (by omega) (by omega)
    rw [SN.2.1, SN.2.2.1, SN.2.2.2, e1, e2, e3, s6 v4 (by omega) k2]
    have t1 := SN.1
    have eqn : u = g v4 → ds n f m g i v4 = ds n f m g (i + 1) (v4 + 1) := fun e => ds_s i1 k2 (by rw [← hu]; exact e)
    have ner : ¬ u = g v4 → ds n f m g i v4 = 1 + min (ds n f m g (i + 1) (v4 + 1)) (min (ds n f m g (i + 1) v4) (ds n f m g i (v4 + 1))) := fun e => ds_d i1 k2 (by rw [← hu]; exact e)
    refine ⟨by unfold jR; omega, by unfold jR; omega, t1, by unfold jR; omega, by unfold jR; omega, ⟨rfl, by omega, by omega⟩, s1, ⟨s4, by omega, by omega⟩, fun e => ⟨t1, ⟨rfl, by omega, by omega⟩, by unfold jR; omega, fin _ (eqn e).symm, by omega⟩, fun e => ?_⟩
    have d := ner e
    repeat' first | exact fin _ (by omega) | apply And.intro | intro _ | exact t1 | rfl | omega | (unfold jR; omega)
  · have s2 := B.2.1
    refine ⟨B.1, by rw [s2]; unfold jR; omega, rfl, rfl, rfl, rfl, by omega, by rw [s2]; omega, Zof.refl s M, fun j j0 => rfl, fun j j0 j1 => ?_⟩
    rw [s2] at j0
    have : j = m := by omega
    rw [this]; exact he
theorem c_md {s a b n m : Int} {f g : Int → Int} (S : BigT M s) (A : Txf M a n f) (B : Txf M b m g) (ha : M 1000 a 0 ≠ s + 1) (hb : M 1000 b 0 ≠ s + 1) (h : ∀ M', Zof s M M' → Dtb M' s n m (ds n f m g) → Q 0 M') : Runs G 51 0 0 [(1, s), (1, a), (1, b)] M Q := by
  have an := A.2.2.1
  have bm := B.2.2.1
  refine lp_X7_measureDistances (fun v0 v1 v2 v3 N => s = v0 ∧ a = v1 ∧ b = v2 ∧ 0 ≤ v3 ∧ v3 ≤ m + 1 ∧ Zof s M N ∧ ∀ j, 0 ≤ j → j < v3 → N 2 (s + 1) (n * 241 + j) = ds n f m g n j) (fun _ _ _ v3 => (10000 - v3).toNat) (fun v0 v1 v2 v3 N => s = v0 ∧ a = v1 ∧ b = v2 ∧ -1 ≤ v3 ∧ v3 < n ∧ Zof s M N ∧ ∀ i j, v3 < i → i ≤ n → 0 ≤ j → j ≤ m → N 2 (s + 1) (i * 241 + j) = ds n f m g i j) (fun _ _ _ v3 => (v3 + 1).toNat) ?_ ?_ _ _ _ M ⟨rfl, rfl, rfl, by omega, by omega, Zof.refl s M, fun j j0 j1 => by omega⟩
  · rintro v0 v1 v2 v3 N ⟨rfl, rfl, rfl, k1, k2, k3, k4⟩
    have SN := k3.big S
    have AN := k3.txf A ha
    have BN := k3.txf B hb
    rw [AN.2.1, BN.2.1, SN.2.1, SN.2.2.1, SN.2.2.2]
    refine ⟨BN.1, fun q => ⟨AN.1, by unfold jR; omega, ⟨rfl, rfl, rfl, by omega, by omega, k3, fun i j i0 i1 j0 j1 => ?_⟩, by omega⟩, fun q => ⟨SN.1, AN.1, by unfold jR; omega, by unfold jR; omega, BN.1, by unfold jR; omega, ⟨rfl, by omega, by omega⟩, by unfold jR; omega, ⟨rfl, rfl, rfl, by omega, by omega, k3.set _ _, fun j j0 j1 => ?_⟩, by omega⟩⟩
    · have : i = n := by omega
      rw [this]; exact k4 j j0 (by omega)
    · by_cases hj : j = v3
      · rw [hj, jset_s, ds_n (by omega)]
      · rw [jset_j (by omega)]; exact k4 j j0 (by omega)
  · rintro v0 v1 v2 v3 N ⟨rfl, rfl, rfl, k1, k2, k3, k4⟩
    have SN := k3.big S
    have AN := k3.txf A ha
    have BN := k3.txf B hb
    have ea : N 1000 a 0 ≠ s + 1 := by rw [k3 _ _ _ (by omega)]; exact ha
    have eb : N 1000 b 0 ≠ s + 1 := by rw [k3 _ _ _ (by omega)]; exact hb
    rw [AN.2.1, BN.2.1, SN.2.1, SN.2.2.1, SN.2.2.2]
    refine ⟨fun q => h N k3 (fun i j i0 i1 j0 j1 => k4 i j (by omega) i1 j0 j1), fun q => ⟨SN.1, by unfold jR; omega, BN.1, by unfold jR; omega, AN.1, by unfold jR; omega, ⟨rfl, by omega, by omega⟩, AN.1, ⟨AN.2.2.2.1, by omega, by have := AN.2.2.2.2.1; omega⟩, SN.1, ?_⟩⟩
    have s1 : Zof s N (jset N 2 (s + 1) (v3 * 241 + m) (n - v3)) := (Zof.refl s N).set _ _
    rw [show jset N 2 (s + 1) (v3 * 241 + m) (n - v3) 2 (N 1000 a 0) v3 = N 2 (N 1000 a 0) v3 from jset_a ea _ _, AN.2.2.2.2.2 v3 (by omega) k2]
    refine c_mdF (n := n) (m := m) (f := f) (g := g) (s1.big SN) (s1.txf BN eb) (by rw [s1 _ _ _ (by omega)]; exact eb) an.2 (by omega) k2 rfl (fun j j0 j1 => ?_) ?_ (fun M' o1 o2 o3 _ => ⟨by unfold jR; omega, ⟨rfl, rfl, rfl, by omega, by omega, (k3.trans s1).trans o1, fun i j i0 i1 j0 j1 => ?_⟩, by omega⟩)
    · rw [jset_j (by omega)]; exact k4 (v3 + 1) j (by omega) (by omega) j0 j1
    · rw [jset_s, ds_m (by omega)]
    · by_cases hi : i = v3
      · rw [hi]; exact o3 j j0 j1
      · rw [o2 _ (by omega), jset_j (by omega)]; exact k4 i j (by omega) i1 j0 j1
end DIST
