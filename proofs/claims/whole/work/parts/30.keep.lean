/-! Shelf.keep -/
section KEEP
variable {G : JG} {Q : Int → JM → Prop} {M : JM} {X : Int}
/-- the sizes of all Texts of the shelf and of the ring are in their bounds -/
def SzOk (M : JM) (X : Int) : Prop := (∀ t, 0 ≤ t → t < 40 → 0 ≤ M 2901 (X + (4 + 2 * t)) 0 ∧ M 2901 (X + (4 + 2 * t)) 0 ≤ 240) ∧ ∀ s, 0 ≤ s → s < 20 → 0 ≤ M 2901 (X + (85 + 3 * s)) 0 ∧ M 2901 (X + (85 + 3 * s)) 0 ≤ 240
theorem tx_text (W : WSt X M) (Z : SzOk M X) {t : Int} (h0 : 0 ≤ t) (h1 : t < 40) : Tx M (X + (4 + 2 * t)) 240 := by
  obtain ⟨-, e1, e2, e3, e4⟩ := w_text W h0 h1
  obtain ⟨z1, z2⟩ := Z.1 t h0 h1
  exact ⟨e1, by rw [e2]; exact e3, by rw [e2]; exact e4, z1, z2, by decide⟩
theorem tx_kept (W : WSt X M) (Z : SzOk M X) {s : Int} (h0 : 0 ≤ s) (h1 : s < 20) : Tx M (X + (85 + 3 * s)) 240 := by
  obtain ⟨-, -, -, e1, e2, e3, e4⟩ := w_kept W h0 h1
  obtain ⟨z1, z2⟩ := Z.2 s h0 h1
  exact ⟨e1, by rw [e2]; exact e3, by rw [e2]; exact e4, z1, z2, by decide⟩
/-- the memory behind keep -/
def mkept (M : JM) (X t : Int) : JM := jset (jset (mnext M X) 2102 (X + (84 + 3 * kslot M X)) 0 0) 2101 (X + (84 + 3 * kslot M X)) 0 t
def mkeep (M : JM) (X t : Int) : JM := jset (jcpy (jset (mkept M X t) 2901 (X + (85 + 3 * kslot M X)) 0 0) (X + (5 + 2 * t)) 0 (X + (86 + 3 * kslot M X)) 0 (M 2901 (X + (4 + 2 * t)) 0)) 2901 (X + (85 + 3 * kslot M X)) 0 (M 2901 (X + (4 + 2 * t)) 0)
theorem mkept_k {t : Int} {k : Nat} (h : k ≠ 2403 ∧ k ≠ 2404 ∧ k ≠ 2405 ∧ k ≠ 2101 ∧ k ≠ 2102) (a j : Int) : mkept M X t k a j = M k a j := by
  unfold mkept
  rw [jset_k h.2.2.2.1, jset_k h.2.2.2.2, mnext_k ⟨h.1, h.2.1, h.2.2.1⟩]
theorem WSt.mkept (W : WSt X M) (t : Int) : WSt X (mkept M X t) := W.keep fun k a j _ _ hk => mkept_k (by omega) a j
theorem c_keep {t : Int} (W : WSt X M) (S : ShOk M X) (Z : SzOk M X) (hX : 0 < X) (h0 : 0 ≤ t) (h1 : t < M 2402 (X + 1) 0) (h : Q 0 (mkeep M X t)) : Runs G 31 0 0 [(1, X + 1), (0, t)] M Q := by
  have hk : 0 ≤ kslot M X ∧ kslot M X < 20 := by unfold kslot; omega
  have hm := S.1
  have W2 := W.mnext
  have W3 := W.mkept t
  have Z3 : SzOk (mkept M X t) X := ⟨fun u g1 g2 => by rw [mkept_k (by decide)]; exact Z.1 u g1 g2, fun u g1 g2 => by rw [mkept_k (by decide)]; exact Z.2 u g1 g2⟩
  refine rn_X4_keep _ _ M (sg_X4_keep_0 _ _ M ⟨w_shelf_t W, c_look W hX hm.2 (fun _ _ _ => ⟨fun g => absurd g (by omega), fun _ => ⟨w_shelf_t W, c_nextKept W S (fun _ => ?_)⟩⟩) (fun g => absurd ⟨h0, h1⟩ g)⟩)
  obtain ⟨-, e1, e2, e3, e4, -⟩ := w_kept W2 hk.1 hk.2
  rw [e2]
  refine ⟨e1, Or.inl rfl, e1, e1, e3, ?_⟩
  show Runs G 93 0 0 [(1, X + (85 + 3 * kslot M X)), (1, X + (4 + 2 * t))] (mkept M X t) _
  have T1 := tx_kept W3 Z3 hk.1 hk.2
  have T2 := tx_text W3 Z3 h0 (by omega)
  refine c_become T1 T2 (by omega) (by have := Z3.1 t h0 (by omega); omega) (fun _ => ?_)
  have a1 : mkept M X t 1000 (X + (4 + 2 * t)) 0 = X + (5 + 2 * t) := (w_text W3 h0 (by omega)).2.2.1
  have a2 : mkept M X t 1000 (X + (85 + 3 * kslot M X)) 0 = X + (86 + 3 * kslot M X) := (w_kept W3 hk.1 hk.2).2.2.2.2.1
  have a3 : mkept M X t 2901 (X + (4 + 2 * t)) 0 = M 2901 (X + (4 + 2 * t)) 0 := mkept_k (by decide) _ _
  rw [a1, a2, a3]
  exact h
end KEEP
