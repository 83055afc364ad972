/-! the component's keep, opening, put, putPart over what both sides stand for -/
/-- a new empty text -/
noncomputable def aopen (T : ATx) : ATx := (T.1 + 1, fun t => if t = T.1 then 0 else T.2.1 t, T.2.2)
theorem AT.opn {T : ATx} (A : AT T) (h : T.1 < 40) : AT (aopen T) := by
  obtain ⟨a1, a2, a3⟩ := A
  refine ⟨by show 0 ≤ T.1 + 1; omega, by show T.1 + 1 ≤ 40; omega, fun t h0 h1 => ?_⟩
  have h1 : t < T.1 + 1 := h1
  show AU (if t = T.1 then 0 else T.2.1 t) (T.2.2 t)
  by_cases ht : t = T.1
  · rw [if_pos ht]; exact ⟨by omega, by omega, fun i i0 i1 => by omega⟩
  · rw [if_neg ht]; exact a3 t h0 (by omega)
section MUT
variable {G : JG} {Q : Int → JM → Prop} {M : JM} {X n t : Int} {T : ATx} {K : AKp} {P : ATx} {D : ADt}
theorem CB.sh (C : CB X n M T K P D) (A : AI T K P D) : ShOk M X := by
  obtain ⟨k1, k2, k3, -⟩ := C.2.2.2.1
  have e := C.2.1.1
  have a1 := A.1.1
  have a2 := A.1.2.1
  have b1 := A.2.1.1
  have b2 := A.2.1.2.1
  unfold ShOk
  rw [e, k1]
  exact ⟨⟨a1, a2⟩, k2, ⟨b1, b2⟩, k3.1, by omega⟩
/-- the ring is turned on and its new slot is written; nothing else of the ring changes -/
theorem CK.push {M' : JM} {b l : Int} {u : Int → Int} (h : CK X n M K) (b1 : 0 ≤ K.1) (b2 : K.1 ≤ 20) (hn : n + 1 ≤ 1000000) (e1 : M' 2404 (X + 1) 0 = mnext M X 2404 (X + 1) 0) (e2 : M' 2403 (X + 1) 0 = mnext M X 2403 (X + 1) 0) (e3 : M' 2405 (X + 1) 0 = mnext M X 2405 (X + 1) 0) (hs : KSlot X M' (kslot M X) t b l u) (ho : ∀ s, 0 ≤ s → s < 20 → s ≠ kslot M X → ∀ k j, M' k (X + (84 + 3 * s)) j = M k (X + (84 + 3 * s)) j ∧ M' k (X + (85 + 3 * s)) j = M k (X + (85 + 3 * s)) j ∧ M' k (X + (86 + 3 * s)) j = M k (X + (86 + 3 * s)) j) : CK X (n + 1) M' (kpush K t b l u) := by
  obtain ⟨c1, c2, c3, c4⟩ := h
  have q5 : mnext M X 2405 (X + 1) 0 = M 2405 (X + 1) 0 + 1 := by
    unfold mnext
    split
    · rw [jset_k (by decide), jset_s]
    · rw [jset_k (by decide), jset_s]
  unfold kslot at hs ho
  rw [c1] at hs ho
  have old : ∀ s k, 0 ≤ k → k < K.1 → s = (M 2403 (X + 1) 0 + k) % 20 → s ≠ (M 2403 (X + 1) 0 + K.1) % 20 → KSlot X M' s (K.2.1 k) (K.2.2.1 k) (K.2.2.2.1 k) (K.2.2.2.2 k) := fun s k k0 k1 hs hne => by
    obtain ⟨d1, d2, d3⟩ := c4 k k0 k1
    rw [← hs] at d1 d2 d3
    have o := ho s (by omega) (by omega) hne
    exact ⟨by rw [(o _ _).1]; exact d1, by rw [(o _ _).1]; exact d2, fun hb => ⟨by rw [(o _ _).2.1]; exact (d3 hb).1, fun i i0 i1 => by rw [(o _ _).2.2]; exact (d3 hb).2 i i0 i1⟩⟩
  by_cases hc : K.1 = 20
  · have m4 : mnext M X 2404 (X + 1) 0 = 20 := by
      unfold mnext
      rw [if_pos (c1.trans hc), jset_k (by decide), jset_k (by decide)]; omega
    have m3 : mnext M X 2403 (X + 1) 0 = (M 2403 (X + 1) 0 + 1) % 20 := by
      unfold mnext
      rw [if_pos (c1.trans hc), jset_s]
    have ek : kidx K.1 = 19 := if_pos hc
    refine ⟨by rw [kpush_1, e1, m4, ek]; rfl, by rw [e2, m3]; omega, by rw [e3, q5]; omega, fun k k0 k1 => ?_⟩
    rw [kpush_1, ek] at k1
    rw [e2, m3]
    by_cases hk : k = kidx K.1
    · obtain ⟨f1, f2, f3, f4⟩ := @kpush_s K t b l u
      rw [hk, f1, f2, f3, f4, show ((M 2403 (X + 1) 0 + 1) % 20 + kidx K.1) % 20 = (M 2403 (X + 1) 0 + K.1) % 20 by omega]
      exact hs
    · obtain ⟨f1, f2, f3, f4⟩ := @kpush_o K t b l k u hk
      rw [f1, f2, f3, f4, if_pos hc]
      exact old _ (k + 1) (by omega) (by omega) (by omega) (by omega)
  · have m4 : mnext M X 2404 (X + 1) 0 = K.1 + 1 := by
      unfold mnext
      rw [if_neg (by omega), jset_s, c1]
    have m3 : mnext M X 2403 (X + 1) 0 = M 2403 (X + 1) 0 := by
      unfold mnext
      rw [if_neg (by omega), jset_k (by decide), jset_k (by decide)]
    have ek : kidx K.1 = K.1 := if_neg hc
    refine ⟨by rw [kpush_1, e1, m4, ek], by rw [e2, m3]; omega, by rw [e3, q5]; omega, fun k k0 k1 => ?_⟩
    rw [kpush_1, ek] at k1
    rw [e2, m3]
    by_cases hk : k = kidx K.1
    · obtain ⟨f1, f2, f3, f4⟩ := @kpush_s K t b l u
      rw [hk, f1, f2, f3, f4, ek]
      exact hs
    · obtain ⟨f1, f2, f3, f4⟩ := @kpush_o K t b l k u hk
      rw [f1, f2, f3, f4, if_neg hc]
      exact old _ k (by omega) (by omega) (by omega) (by omega)
theorem mnext_5 : mnext M X 2405 (X + 1) 0 = M 2405 (X + 1) 0 + 1 := by
  unfold mnext
  split
  · rw [jset_k (by decide), jset_s]
  · rw [jset_k (by decide), jset_s]
theorem mnext_o {k : Nat} {a j : Int} (h : ¬ (a = X + 1 ∧ 2403 ≤ k ∧ k ≤ 2405)) : mnext M X k a j = M k a j := by
  by_cases ha : a = X + 1
  · exact mnext_k (by omega) a j
  · exact mnext_a ha k j
/-- behind a change the suffixes that are kept are stale -/
theorem CH.stale {M' : JM} (h : CH X M T) (B : CBig X M) (h1 : M' 2405 (X + 1) 0 = M 2405 (X + 1) 0 + 1) (h2 : ∀ k a j, fpH X M k a → ¬ (a = X + 1 ∧ k = 2405) → M' k a j = M k a j) (hX : 0 < X) : Stale X M' := by
  obtain ⟨⟨c1, -⟩, c2⟩ := h
  unfold fpH at h2
  unfold Stale
  rw [h1, h2 2812 (X + 144) 0 (by omega) (by omega), h2 1212 X 0 (by omega) (by omega)]
  refine ⟨by omega, ?_⟩
  rcases B.2.1 with b | b
  · exact Or.inl b
  · refine c2.imp id fun q => ?_
    rw [h2 2812 (M 1212 X 0) 0 (by omega) (by omega)]
    omega
theorem mkeep_o {k : Nat} {a j : Int} (h1 : ¬ (a = X + 1 ∧ 2403 ≤ k ∧ k ≤ 2405)) (h2 : ¬ ((k = 2101 ∨ k = 2102) ∧ a = X + (84 + 3 * kslot M X))) (h3 : ¬ (k = 2901 ∧ a = X + (85 + 3 * kslot M X))) (h4 : ¬ (k = 2 ∧ a = X + (86 + 3 * kslot M X))) : mkeep M X t k a j = M k a j := by
  unfold mkeep mkept
  rw [show jset (jcpy (jset (jset (jset (mnext M X) 2102 (X + (84 + 3 * kslot M X)) 0 0) 2101 (X + (84 + 3 * kslot M X)) 0 t) 2901 (X + (85 + 3 * kslot M X)) 0 0) (X + (5 + 2 * t)) 0 (X + (86 + 3 * kslot M X)) 0 (M 2901 (X + (4 + 2 * t)) 0)) 2901 (X + (85 + 3 * kslot M X)) 0 (M 2901 (X + (4 + 2 * t)) 0) k a j = _ from if_neg (by omega), show jcpy (jset (jset (jset (mnext M X) 2102 (X + (84 + 3 * kslot M X)) 0 0) 2101 (X + (84 + 3 * kslot M X)) 0 t) 2901 (X + (85 + 3 * kslot M X)) 0 0) (X + (5 + 2 * t)) 0 (X + (86 + 3 * kslot M X)) 0 (M 2901 (X + (4 + 2 * t)) 0) k a j = _ from if_neg (by omega), show jset (jset (jset (mnext M X) 2102 (X + (84 + 3 * kslot M X)) 0 0) 2101 (X + (84 + 3 * kslot M X)) 0 t) 2901 (X + (85 + 3 * kslot M X)) 0 0 k a j = _ from if_neg (by omega), show jset (jset (mnext M X) 2102 (X + (84 + 3 * kslot M X)) 0 0) 2101 (X + (84 + 3 * kslot M X)) 0 t k a j = _ from if_neg (by omega), show jset (mnext M X) 2102 (X + (84 + 3 * kslot M X)) 0 0 k a j = _ from if_neg (by omega)]
  exact mnext_o h1
/-- what keep and a new text may write -/
def Opn (X m : Int) (M M' : JM) : Prop := ∀ (k : Nat) (a j : Int), ¬ (a = X + 1 ∧ 2402 ≤ k ∧ k ≤ 2405) → ¬ (X + 84 ≤ a ∧ a < X + 144 ∧ (k = 2 ∨ k = 2901 ∨ k = 2101 ∨ k = 2102)) → ¬ (k = 2901 ∧ a = X + (4 + 2 * m)) → M' k a j = M k a j
theorem c_keepA (C : CB X n M T K P D) (H : CH X M T) (A : AI T K P D) (hX : 0 < X) (hn : n + 1 ≤ 1000000) (ht : 0 ≤ t ∧ t < T.1) (h : ∀ M', Opn X T.1 M M' → FrC X M M' → CB X (n + 1) M' T (kpush K t 0 (T.2.1 t) (T.2.2 t)) P D → AI T (kpush K t 0 (T.2.1 t) (T.2.2 t)) P D → Stale X M' → M' 1212 X 0 = M 1212 X 0 → M' 1213 X 0 = M 1213 X 0 → Q 0 M') : Runs G 31 0 0 [(1, X + 1), (0, t)] M Q := by
  have hk : 0 ≤ kslot M X ∧ kslot M X < 20 := by unfold kslot; omega
  have a2 := A.1.2.1
  have b := A.2.1
  obtain ⟨TT, e1, e2, e3, e4, e5, e6, e7, e8⟩ := c_txt C A ht
  refine c_keep C.1 (C.sh A) C.2.2.1 hX ht.1 (by rw [C.2.1.1]; exact ht.2) ?_
  have o : ∀ (k : Nat) (a j : Int), ¬ (a = X + 1 ∧ 2403 ≤ k ∧ k ≤ 2405) → ¬ (X + 84 ≤ a ∧ a < X + 144 ∧ (k = 2 ∨ k = 2901 ∨ k = 2101 ∨ k = 2102)) → mkeep M X t k a j = M k a j := fun k a j q1 q2 => mkeep_o q1 (by omega) (by omega) (by omega)
  have r1 : ∀ k, 2403 ≤ k → k ≤ 2405 → mkeep M X t k (X + 1) 0 = mnext M X k (X + 1) 0 := fun k k1 k2 => by
    unfold mkeep mkept
    rw [jset_k (by omega), jcpy_k (by omega), jset_k (by omega), jset_k (by omega), jset_k (by omega)]
  have sl : KSlot X (mkeep M X t) (kslot M X) t 0 (T.2.1 t) (T.2.2 t) := by
    refine ⟨?_, ?_, fun _ => ⟨?_, fun i i0 i1 => ?_⟩⟩
    · unfold mkeep mkept
      rw [jset_k (by decide), jcpy_k (by decide), jset_k (by decide), jset_s]
    · unfold mkeep mkept
      rw [jset_k (by decide), jcpy_k (by decide), jset_k (by decide), jset_k (by decide), jset_s]
    · unfold mkeep
      rw [jset_s]; exact e1
    · unfold mkeep mkept
      rw [jset_k (by decide), jcpy_in (by omega) (by omega), jset_k (by decide), jset_k (by decide), jset_k (by decide), mnext_o (by omega), show 0 + (i - 0) = i by omega]
      exact e3 i i0 i1
  have ck : CK X (n + 1) (mkeep M X t) (kpush K t 0 (T.2.1 t) (T.2.2 t)) := C.2.2.2.1.push b.1 b.2.1 hn (r1 _ (by decide) (by decide)) (r1 _ (by decide) (by decide)) (r1 _ (by decide) (by decide)) sl (fun s s0 s1 hs k j => ⟨mkeep_o (by omega) (by omega) (by omega) (by omega), mkeep_o (by omega) (by omega) (by omega) (by omega), mkeep_o (by omega) (by omega) (by omega) (by omega)⟩)
  refine h _ (fun k a j q1 q2 _ => o k a j (by omega) q2) (fun k a j q1 q2 => o k a j (by omega) (by omega)) ⟨C.1.keepC fun k a j q => o k a j (by unfold fpS at q; omega) (by unfold fpS at q; omega), C.2.1.keep A.1 fun k a j q => o k a j (by unfold fpT at q; omega) (by unfold fpT at q; omega), ⟨fun s s0 s1 => ?_, fun s s0 s1 => ?_⟩, ck, C.2.2.2.2.1.keep A.2.2.1 fun k a j q => o k a j (by unfold fpP at q; omega) (by unfold fpP at q; omega), C.2.2.2.2.2.1.keep fun k a j q => o k a j (by unfold fpS fpD at q; omega) (by unfold fpS fpD at q; omega), C.2.2.2.2.2.2.keep fun k a j q => o k a j (by unfold fpS at q; omega) (by unfold fpS at q; omega)⟩ ⟨A.1, b.push ⟨A.1.1, Or.inr ⟨rfl, ht.1, ht.2, rfl, A.1.2.2 t ht.1 ht.2⟩⟩, A.2.2⟩ (H.stale C.2.2.2.2.2.2 (by rw [r1 _ (by decide) (by decide)]; exact mnext_5) (fun k a j q1 q2 => o k a j (by unfold fpH at q1; omega) (by unfold fpH at q1; omega)) hX) (o _ _ _ (by omega) (by omega)) (o _ _ _ (by omega) (by omega))
  · rw [o _ _ _ (by omega) (by omega)]; exact C.2.2.1.1 s s0 s1
  · by_cases hs : s = kslot M X
    · rw [hs, (sl.2.2 rfl).1]; omega
    · rw [mkeep_o (by omega) (by omega) (by omega) (by omega)]; exact C.2.2.1.2 s s0 s1
theorem mopen_o {k : Nat} {a j : Int} (h1 : ¬ (a = X + 1 ∧ 2402 ≤ k ∧ k ≤ 2405)) (h2 : ¬ ((k = 2101 ∨ k = 2102) ∧ a = X + (84 + 3 * kslot M X))) (h3 : ¬ (k = 2901 ∧ a = X + (4 + 2 * M 2402 (X + 1) 0))) : mopen M X k a j = M k a j := by
  unfold mopen
  rw [show jset (jset (jset (jset (mnext M X) 2102 (X + (84 + 3 * kslot M X)) 0 1) 2101 (X + (84 + 3 * kslot M X)) 0 (M 2402 (X + 1) 0)) 2901 (X + (4 + 2 * M 2402 (X + 1) 0)) 0 0) 2402 (X + 1) 0 (M 2402 (X + 1) 0 + 1) k a j = _ from if_neg (by omega), show jset (jset (jset (mnext M X) 2102 (X + (84 + 3 * kslot M X)) 0 1) 2101 (X + (84 + 3 * kslot M X)) 0 (M 2402 (X + 1) 0)) 2901 (X + (4 + 2 * M 2402 (X + 1) 0)) 0 0 k a j = _ from if_neg (by omega), show jset (jset (mnext M X) 2102 (X + (84 + 3 * kslot M X)) 0 1) 2101 (X + (84 + 3 * kslot M X)) 0 (M 2402 (X + 1) 0) k a j = _ from if_neg (by omega), show jset (mnext M X) 2102 (X + (84 + 3 * kslot M X)) 0 1 k a j = _ from if_neg (by omega)]
  exact mnext_o (by omega)
theorem c_openA (C : CB X n M T K P D) (H : CH X M T) (A : AI T K P D) (hX : 0 < X) (hn : n + 1 ≤ 1000000) (hm : T.1 < 40) (h : ∀ M', Opn X T.1 M M' → FrC X M M' → CB X (n + 1) M' (aopen T) (kpush K T.1 1 0 (T.2.2 T.1)) P D → AI (aopen T) (kpush K T.1 1 0 (T.2.2 T.1)) P D → Stale X M' → M' 1212 X 0 = M 1212 X 0 → M' 1213 X 0 = M 1213 X 0 → Q (X + (4 + 2 * T.1)) M') : Runs G 30 0 0 [(1, X + 1)] M Q := by
  have hk : 0 ≤ kslot M X ∧ kslot M X < 20 := by unfold kslot; omega
  have a1 := A.1.1
  have b := A.2.1
  have em := C.2.1.1
  refine c_open C.1 (C.sh A) (fun _ => ?_) (fun g => absurd g (by omega))
  have o : ∀ (k : Nat) (a j : Int), ¬ (a = X + 1 ∧ 2402 ≤ k ∧ k ≤ 2405) → ¬ (X + 84 ≤ a ∧ a < X + 144 ∧ (k = 2 ∨ k = 2901 ∨ k = 2101 ∨ k = 2102)) → ¬ (k = 2901 ∧ a = X + (4 + 2 * T.1)) → mopen M X k a j = M k a j := fun k a j q1 q2 q3 => mopen_o q1 (by omega) (by rw [em]; exact q3)
  have r1 : ∀ k, 2403 ≤ k → k ≤ 2405 → mopen M X k (X + 1) 0 = mnext M X k (X + 1) 0 := fun k k1 k2 => by
    unfold mopen
    rw [jset_k (by omega), jset_k (by omega), jset_k (by omega), jset_k (by omega)]
  have sl : KSlot X (mopen M X) (kslot M X) T.1 1 0 (T.2.2 T.1) := by
    refine ⟨?_, ?_, fun q => by omega⟩
    · unfold mopen
      rw [jset_k (by decide), jset_k (by decide), jset_s]; exact em
    · unfold mopen
      rw [jset_k (by decide), jset_k (by decide), jset_k (by decide), jset_s]
  have ck : CK X (n + 1) (mopen M X) (kpush K T.1 1 0 (T.2.2 T.1)) := C.2.2.2.1.push b.1 b.2.1 hn (r1 _ (by decide) (by decide)) (r1 _ (by decide) (by decide)) (r1 _ (by decide) (by decide)) sl (fun s s0 s1 hs k j => ⟨mopen_o (by omega) (by omega) (by omega), mopen_o (by omega) (by omega) (by omega), mopen_o (by omega) (by omega) (by omega)⟩)
  have es : mopen M X 2901 (X + (4 + 2 * T.1)) 0 = 0 := by
    unfold mopen
    rw [em, jset_k (by decide), jset_s]
  rw [em]
  refine h _ o (fun k a j q1 q2 => o k a j (by omega) (by omega) (by omega)) ⟨C.1.keepC fun k a j q => o k a j (by unfold fpS at q; omega) (by unfold fpS at q; omega) (by unfold fpS at q; omega), ⟨?_, fun t t0 t1 => ?_⟩, ⟨fun s s0 s1 => ?_, fun s s0 s1 => ?_⟩, ck, C.2.2.2.2.1.keep A.2.2.1 fun k a j q => o k a j (by unfold fpP at q; omega) (by unfold fpP at q; omega) (by unfold fpP at q; omega), C.2.2.2.2.2.1.keep fun k a j q => o k a j (by unfold fpS fpD at q; omega) (by unfold fpS fpD at q; omega) (by unfold fpS fpD at q; omega), C.2.2.2.2.2.2.keep fun k a j q => o k a j (by unfold fpS at q; omega) (by unfold fpS at q; omega) (by unfold fpS at q; omega)⟩ ⟨A.1.opn hm, b.push ⟨a1, Or.inl ⟨rfl, rfl, rfl⟩⟩, A.2.2⟩ (H.stale C.2.2.2.2.2.2 (by rw [r1 _ (by decide) (by decide)]; exact mnext_5) (fun k a j q1 q2 => o k a j (by unfold fpH at q1; omega) (by unfold fpH at q1; omega) (by unfold fpH at q1; omega)) hX) (o _ _ _ (by omega) (by omega) (by omega)) (o _ _ _ (by omega) (by omega) (by omega))
  · unfold mopen
    rw [jset_s, em]; rfl
  · have t1 : t < T.1 + 1 := t1
    show _ = (if t = T.1 then 0 else T.2.1 t) ∧ ∀ i, 0 ≤ i → i < (if t = T.1 then 0 else T.2.1 t) → _ = T.2.2 t i
    by_cases ht : t = T.1
    · rw [if_pos ht, ht]; exact ⟨es, fun i i0 i1 => by omega⟩
    · rw [if_neg ht, o _ _ _ (by omega) (by omega) (by omega)]
      obtain ⟨d1, d2⟩ := C.2.1.2 t t0 (by omega)
      exact ⟨d1, fun i i0 i1 => by rw [o _ _ _ (by omega) (by omega) (by omega)]; exact d2 i i0 i1⟩
  · by_cases hs : s = T.1
    · rw [hs, es]; omega
    · rw [o _ _ _ (by omega) (by omega) (by omega)]; exact C.2.2.1.1 s s0 s1
  · rw [mopen_o (by omega) (by omega) (by omega)]; exact C.2.2.1.2 s s0 s1
end MUT
