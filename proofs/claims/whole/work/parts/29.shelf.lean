/-! UnitAtlas$Shelf: contracts, over the fixed world -/
theorem w_text {M : JM} {X : Int} (h : WSt X M) {t : Int} (h0 : 0 ≤ t) (h1 : t < 40) : M 3 (X + 2) t = X + (4 + 2 * t) ∧ M 0 (X + (4 + 2 * t)) 0 = 19 ∧ M 1000 (X + (4 + 2 * t)) 0 = X + (5 + 2 * t) ∧ M 0 (X + (5 + 2 * t)) 0 = 1 ∧ M 1 (X + (5 + 2 * t)) 0 = 240 := by
  obtain ⟨n, rfl⟩ := Int.eq_ofNat_of_zero_le h0
  have hn : n ∈ List.range 40 := List.mem_range.mpr (by omega)
  have e1 := h.get (List.all_eq_true.mp pk_textE n hn)
  have e2 := h.get (List.all_eq_true.mp pk_text n hn)
  have e3 := h.get (List.all_eq_true.mp pk_textA n hn)
  have a1 : ((4 + 2 * n : Nat) : Int) = 4 + 2 * (n : Int) := by omega
  have a2 : ((5 + 2 * n : Nat) : Int) = 5 + 2 * (n : Int) := by omega
  have f1 := e1.2.2.2 _ List.mem_cons_self
  have f2 := e2.2.2.1 _ List.mem_cons_self (show 100 ≤ 1000 by decide) (show 1000 < 2000 by decide) (show 1000 ≠ 1212 by decide) (show 1000 ≠ 1213 by decide)
  dsimp only at f1 f2
  rw [a1] at f1 f2 e2
  rw [a2] at f2 e3
  exact ⟨f1, e2.1, f2, e3.1, e3.2.1⟩
theorem w_kept {M : JM} {X : Int} (h : WSt X M) {t : Int} (h0 : 0 ≤ t) (h1 : t < 20) : M 3 (X + 3) t = X + (84 + 3 * t) ∧ M 0 (X + (84 + 3 * t)) 0 = 11 ∧ M 200 (X + (84 + 3 * t)) 0 = X + (85 + 3 * t) ∧ M 0 (X + (85 + 3 * t)) 0 = 19 ∧ M 1000 (X + (85 + 3 * t)) 0 = X + (86 + 3 * t) ∧ M 0 (X + (86 + 3 * t)) 0 = 1 ∧ M 1 (X + (86 + 3 * t)) 0 = 240 := by
  obtain ⟨n, rfl⟩ := Int.eq_ofNat_of_zero_le h0
  have hn : n ∈ List.range 20 := List.mem_range.mpr (by omega)
  have e1 := h.get (List.all_eq_true.mp pk_keptE n hn)
  have e2 := h.get (List.all_eq_true.mp pk_keptO n hn)
  have e3 := h.get (List.all_eq_true.mp pk_keptT n hn)
  have e4 := h.get (List.all_eq_true.mp pk_keptA n hn)
  have a1 : ((84 + 3 * n : Nat) : Int) = 84 + 3 * (n : Int) := by omega
  have a2 : ((85 + 3 * n : Nat) : Int) = 85 + 3 * (n : Int) := by omega
  have a3 : ((86 + 3 * n : Nat) : Int) = 86 + 3 * (n : Int) := by omega
  have f1 := e1.2.2.2 _ List.mem_cons_self
  have f2 := e2.2.2.1 _ List.mem_cons_self (show 100 ≤ 200 by decide) (show 200 < 2000 by decide) (show 200 ≠ 1212 by decide) (show 200 ≠ 1213 by decide)
  have f3 := e3.2.2.1 _ List.mem_cons_self (show 100 ≤ 1000 by decide) (show 1000 < 2000 by decide) (show 1000 ≠ 1212 by decide) (show 1000 ≠ 1213 by decide)
  dsimp only at f1 f2 f3
  rw [a1] at f1 f2 e2
  rw [a2] at f2 f3 e3
  rw [a3] at f3 e4
  exact ⟨f1, e2.1, f2, e3.1, f3, e4.1, e4.2.1⟩
theorem w_pat {M : JM} {X : Int} (h : WSt X M) {t : Int} (h0 : 0 ≤ t) (h1 : t < 16) : M 3 (X + 165) t = X + (167 + 2 * t) ∧ M 0 (X + (167 + 2 * t)) 0 = 19 ∧ M 1000 (X + (167 + 2 * t)) 0 = X + (168 + 2 * t) ∧ M 0 (X + (168 + 2 * t)) 0 = 1 ∧ M 1 (X + (168 + 2 * t)) 0 = 40 := by
  obtain ⟨n, rfl⟩ := Int.eq_ofNat_of_zero_le h0
  have hn : n ∈ List.range 16 := List.mem_range.mpr (by omega)
  have e1 := h.get (List.all_eq_true.mp pk_patE n hn)
  have e2 := h.get (List.all_eq_true.mp pk_patT n hn)
  have e3 := h.get (List.all_eq_true.mp pk_patA n hn)
  have a1 : ((167 + 2 * n : Nat) : Int) = 167 + 2 * (n : Int) := by omega
  have a2 : ((168 + 2 * n : Nat) : Int) = 168 + 2 * (n : Int) := by omega
  have f1 := e1.2.2.2 _ List.mem_cons_self
  have f2 := e2.2.2.1 _ List.mem_cons_self (show 100 ≤ 1000 by decide) (show 1000 < 2000 by decide) (show 1000 ≠ 1212 by decide) (show 1000 ≠ 1213 by decide)
  dsimp only at f1 f2
  rw [a1] at f1 f2 e2
  rw [a2] at f2 e3
  exact ⟨f1, e2.1, f2, e3.1, e3.2.1⟩
section SHELF
variable {G : JG} {Q : Int → JM → Prop} {M : JM} {X : Int}
/-- look: the place of a TEXT, or null -/
theorem c_look {t : Int} (W : WSt X M) (hX : 0 < X) (h40 : M 2402 (X + 1) 0 ≤ 40) (h1 : 0 ≤ t → t < M 2402 (X + 1) 0 → Q (X + (4 + 2 * t)) M) (h0 : ¬ (0 ≤ t ∧ t < M 2402 (X + 1) 0) → Q 0 M) : Runs G 27 0 0 [(1, X + 1), (0, t)] M Q := by
  refine rn_X4_look _ _ M (sg_X4_look_0 _ _ M ?_)
  have e1 := w_shelf_t W
  have e2 := w_shelf_500 W
  have e3 := w_texts_t W
  have e4 := w_texts_n W
  rw [e2]
  refine ⟨fun g => h0 (by omega), fun g => ⟨e1, fun g2 => h0 (by omega), fun g2 => ⟨fun g3 => h0 (by omega), fun g3 => ⟨e1, ⟨Or.inl e3, by omega, by omega⟩, ?_⟩⟩⟩⟩
  rw [(w_text W (by omega) (by omega)).1]
  exact h1 (by omega) (by omega)
theorem c_isFull (W : WSt X M) (h1 : 40 ≤ M 2402 (X + 1) 0 → Q 1 M) (h0 : M 2402 (X + 1) 0 < 40 → Q 0 M) : Runs G 28 0 0 [(1, X + 1)] M Q :=
  rn_X4_isFull _ M (sg_X4_isFull_0 _ M ⟨w_shelf_t W, fun g => ⟨Or.inl rfl, h0 g⟩, fun g => ⟨Or.inr rfl, h1 (by omega)⟩⟩)
theorem c_newest (W : WSt X M) (hb : 0 ≤ M 2402 (X + 1) 0 ∧ M 2402 (X + 1) 0 ≤ 40) (h : Q (M 2402 (X + 1) 0 - 1) M) : Runs G 29 0 0 [(1, X + 1)] M Q :=
  rn_X4_newest _ M (sg_X4_newest_0 _ M ⟨w_shelf_t W, by unfold jR; omega, h⟩)
/-- the slot of the ring that the next change takes, and the memory with the ring turned on -/
def kslot (M : JM) (X : Int) : Int := (M 2403 (X + 1) 0 + M 2404 (X + 1) 0) % 20
def mnext (M : JM) (X : Int) : JM := if M 2404 (X + 1) 0 = 20 then jset (jset M 2405 (X + 1) 0 (M 2405 (X + 1) 0 + 1)) 2403 (X + 1) 0 ((M 2403 (X + 1) 0 + 1) % 20) else jset (jset M 2405 (X + 1) 0 (M 2405 (X + 1) 0 + 1)) 2404 (X + 1) 0 (M 2404 (X + 1) 0 + 1)
theorem mnext_k {k : Nat} (h : k ≠ 2403 ∧ k ≠ 2404 ∧ k ≠ 2405) (a j : Int) : mnext M X k a j = M k a j := by
  unfold mnext
  split
  · rw [jset_k h.1, jset_k h.2.2]
  · rw [jset_k h.2.1, jset_k h.2.2]
theorem mnext_a {a : Int} (h : a ≠ X + 1) (k : Nat) (j : Int) : mnext M X k a j = M k a j := by
  unfold mnext
  split
  · rw [jset_a h, jset_a h]
  · rw [jset_a h, jset_a h]
/-- what holds of the shelf's own numbers -/
def ShOk (M : JM) (X : Int) : Prop := (0 ≤ M 2402 (X + 1) 0 ∧ M 2402 (X + 1) 0 ≤ 40) ∧ (0 ≤ M 2403 (X + 1) 0 ∧ M 2403 (X + 1) 0 < 20) ∧ (0 ≤ M 2404 (X + 1) 0 ∧ M 2404 (X + 1) 0 ≤ 20) ∧ 0 ≤ M 2405 (X + 1) 0 ∧ M 2405 (X + 1) 0 ≤ 1000000
theorem c_nextKept (W : WSt X M) (S : ShOk M X) (h : Q (X + (84 + 3 * kslot M X)) (mnext M X)) : Runs G 32 0 0 [(1, X + 1)] M Q := by
  obtain ⟨-, ho, hc, hs⟩ := S
  refine rn_X4_nextKept _ M (sg_X4_nextKept_0 _ M ?_)
  have e1 := w_shelf_t W
  have e2 := w_shelf_501 W
  have e3 := w_kepts_t W
  have e4 := w_kepts_n W
  simp only [jset_s, e2]
  unfold kslot mnext at h
  refine ⟨e1, by unfold jR; omega, e1, e1, fun g => ?_, fun g => ?_⟩
  · have hm : ((M 2403 (X + 1) 0 + 1) % 20 + M 2404 (X + 1) 0 - 1) % 20 = (M 2403 (X + 1) 0 + M 2404 (X + 1) 0) % 20 := by omega
    refine ⟨e1, by unfold jR; omega, ⟨by omega, by omega⟩, e1, e1, e1, e1, by unfold jR; omega, by unfold jR; omega, ⟨by omega, by omega⟩, ⟨Or.inr e3, by omega, by omega⟩, ?_⟩
    rw [hm, (w_kept W (by omega) (by omega)).1]
    rw [if_pos (by omega)] at h
    exact h
  · have hm : (M 2403 (X + 1) 0 + (M 2404 (X + 1) 0 + 1) - 1) % 20 = (M 2403 (X + 1) 0 + M 2404 (X + 1) 0) % 20 := by omega
    refine ⟨e1, by unfold jR; omega, e1, e1, e1, e1, by unfold jR; omega, by unfold jR; omega, ⟨by omega, by omega⟩, ⟨Or.inr e3, by omega, by omega⟩, ?_⟩
    rw [hm, (w_kept W (by omega) (by omega)).1]
    rw [if_neg (by omega)] at h
    exact h
theorem WSt.mnext (W : WSt X M) : WSt X (mnext M X) := W.keep fun k a j _ _ hk => mnext_k (by omega) a j
/-- the memory behind open -/
def mopen (M : JM) (X : Int) : JM := jset (jset (jset (jset (mnext M X) 2102 (X + (84 + 3 * kslot M X)) 0 1) 2101 (X + (84 + 3 * kslot M X)) 0 (M 2402 (X + 1) 0)) 2901 (X + (4 + 2 * M 2402 (X + 1) 0)) 0 0) 2402 (X + 1) 0 (M 2402 (X + 1) 0 + 1)
theorem c_open (W : WSt X M) (S : ShOk M X) (h1 : M 2402 (X + 1) 0 < 40 → Q (X + (4 + 2 * M 2402 (X + 1) 0)) (mopen M X)) (h0 : M 2402 (X + 1) 0 = 40 → Q 0 M) : Runs G 30 0 0 [(1, X + 1)] M Q := by
  have hk : 0 ≤ kslot M X ∧ kslot M X < 20 := by unfold kslot; omega
  have W2 := W.mnext
  have hn : mnext M X 2402 (X + 1) 0 = M 2402 (X + 1) 0 := mnext_k (by decide) _ _
  obtain ⟨hm, -⟩ := id S
  refine rn_X4_open _ M (sg_X4_open_0 _ M ⟨w_shelf_t W, c_isFull W (fun g _ => ⟨fun g2 => absurd g2 (by decide), fun _ => h0 (by omega)⟩) (fun g _ => ⟨fun _ => ⟨w_shelf_t W, c_nextKept W S (fun _ => ?_)⟩, fun g2 => absurd rfl g2⟩)⟩)
  have e1 := w_shelf_t W2
  have e2 := w_shelf_500 W2
  have e3 := (w_kept W2 hk.1 hk.2).2.1
  have e4 := w_text W2 (t := M 2402 (X + 1) 0) (by omega) (by omega)
  rw [e2, hn, e4.1]
  exact ⟨e3, Or.inr rfl, e1, e3, e1, e1, ⟨Or.inl (w_texts_t W2), by omega, by rw [w_texts_n W2]; omega⟩, e4.2.1, e1, by unfold jR; omega, e1, h1 g⟩
end SHELF
