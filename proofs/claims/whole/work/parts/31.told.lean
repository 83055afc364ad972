/-! UnitAtlas$Told: contracts over lists of rows -/
abbrev TR : Type := Int × Int × Int
def fld (r : TR) (x : Int) : Int := if x = 0 then r.1 else if x = 1 then r.2.1 else r.2.2
/-- row k of a list, and its number x -/
def rowx (l : List TR) (k x : Int) : Int := fld (l.getD k.toNat (0, 0, 0)) x
/-- what a Told answers -/
def tans (w : Int) (l : List TR) (k x : Int) : Int := if 0 ≤ x ∧ x < w then (if 0 ≤ k ∧ k < l.length then rowx l k x else -1) else -2
/-- a Told at d with its cells at e, width w, room n, and its rows -/
def TdL (M : JM) (d e w n : Int) (l : List TR) : Prop := (M 0 d 0 = 20 ∧ M 1100 d 0 = e ∧ M 0 e 0 = 1 ∧ M 1 e 0 = w * n) ∧ (M 3001 d 0 = w ∧ M 3002 d 0 = n ∧ (w = 1 ∨ w = 2 ∨ w = 3) ∧ n ≤ 10000) ∧ (M 3003 d 0 = l.length ∧ (l.length : Int) ≤ n) ∧ ∀ k x : Int, 0 ≤ k → k < l.length → 0 ≤ x → x < w → M 2 e (k * w + x) = rowx l k x
/-- only the rows of the Told at d, e have changed -/
def Tof (d e : Int) (M M' : JM) : Prop := ∀ k a j, ¬ (k = 3003 ∧ a = d) → ¬ (k = 2 ∧ a = e) → M' k a j = M k a j
theorem Tof.refl (d e : Int) (M : JM) : Tof d e M M := fun _ _ _ _ _ => rfl
theorem Tof.trans {d e : Int} {M M' M'' : JM} (h : Tof d e M M') (g : Tof d e M' M'') : Tof d e M M'' := fun k a j h1 h2 => (g k a j h1 h2).trans (h k a j h1 h2)
theorem TdL.keep {M M' : JM} {d e w n : Int} {l : List TR} (T : TdL M d e w n l) (h1 : ∀ k, M' k d 0 = M k d 0) (h2 : ∀ k j, M' k e j = M k e j) : TdL M' d e w n l := by
  obtain ⟨⟨a1, a2, a3, a4⟩, ⟨b1, b2, b3⟩, ⟨c1, c2⟩, e1⟩ := T
  refine ⟨⟨?_, ?_, ?_, ?_⟩, ⟨?_, ?_, b3⟩, ⟨?_, c2⟩, fun k x g1 g2 g3 g4 => ?_⟩
  · rw [h1]; exact a1
  · rw [h1]; exact a2
  · rw [h2]; exact a3
  · rw [h2]; exact a4
  · rw [h1]; exact b1
  · rw [h1]; exact b2
  · rw [h1]; exact c1
  · rw [h2]; exact e1 k x g1 g2 g3 g4
theorem td_in {k x w n : Int} (hw : w = 1 ∨ w = 2 ∨ w = 3) (hn : n ≤ 10000) (h0 : 0 ≤ k) (h1 : k < n) (h2 : 0 ≤ x) (h3 : x < w) : 0 ≤ k * w ∧ 0 ≤ k * w + x ∧ k * w + x < w * n ∧ jR (k * w) ∧ jR (k * w + x) := by
  unfold jR
  rcases hw with rfl | rfl | rfl <;> omega
theorem td_ne {k k' x x' w : Int} (hw : w = 1 ∨ w = 2 ∨ w = 3) (h2 : 0 ≤ x) (h3 : x < w) (h4 : 0 ≤ x') (h5 : x' < w) (h : k ≠ k') : k * w + x ≠ k' * w + x' := by
  rcases hw with rfl | rfl | rfl <;> omega
theorem rowx_app {l : List TR} {r : TR} {k x : Int} (h0 : 0 ≤ k) (h1 : k < l.length) : rowx (l ++ [r]) k x = rowx l k x := by
  unfold rowx
  rw [List.getD_eq_getElem?_getD, List.getD_eq_getElem?_getD, List.getElem?_append_left (by omega)]
theorem rowx_last {l : List TR} {r : TR} {x : Int} : rowx (l ++ [r]) l.length x = fld r x := by
  unfold rowx
  rw [List.getD_eq_getElem?_getD, show ((l.length : Int)).toNat = l.length by omega, List.getElem?_append_right (Nat.le_refl _), Nat.sub_self]
  rfl
section TOLD
variable {G : JG} {Q : Int → JM → Prop} {M : JM} {d e w n : Int} {l : List TR}
theorem c_clear (T : TdL M d e w n l) (h : ∀ M', Tof d e M M' → TdL M' d e w n [] → Q 0 M') : Runs G 101 0 0 [(1, d)] M Q := by
  obtain ⟨⟨a1, a2, a3, a4⟩, ⟨b1, b2, b3⟩, ⟨c1, c2⟩, e1⟩ := T
  refine rn_X10_clear d M (sg_X10_clear_0 d M ⟨a1, h _ (fun k a j g1 g2 => ?_) ⟨⟨a1, a2, a3, a4⟩, ⟨b1, b2, b3⟩, ⟨jset_s, ?_⟩, fun k x g1 g2 => ?_⟩⟩)
  · exact if_neg fun q => g1 ⟨q.1, q.2.1⟩
  · have : (0 : Int) ≤ l.length := by omega
    show ((0 : Nat) : Int) ≤ n
    omega
  · have : k < ((0 : Nat) : Int) := g2
    omega
theorem c_answer {k x : Int} (T : TdL M d e w n l) (h : Q (tans w l k x) M) : Runs G 102 0 0 [(1, d), (0, k), (0, x)] M Q := by
  obtain ⟨⟨a1, a2, a3, a4⟩, ⟨b1, b2, b3, b4⟩, ⟨c1, c2⟩, e1⟩ := T
  refine rn_X10_answer d k x M (sg_X10_answer_0 d k x M ?_)
  rw [b1, a2, c1]
  unfold tans at h
  have hb : ¬ (0 ≤ x ∧ x < w) → Q (-2) M := fun g => by rw [if_neg g] at h; exact h
  have hn : 0 ≤ x → x < w → ¬ (0 ≤ k ∧ k < l.length) → Q (-1) M := fun g1 g2 g => by rw [if_pos ⟨g1, g2⟩, if_neg g] at h; exact h
  refine ⟨fun g => hb (by omega), fun g => ⟨a1, fun g2 => ⟨fun g3 => hn (by omega) g2 (by omega), fun g3 => ⟨a1, fun g4 => ?_, fun g4 => hn (by omega) g2 (by omega)⟩⟩, fun g2 => hb (by omega)⟩⟩
  obtain ⟨p1, p2, p3, p4, p5⟩ := td_in b3 b4 (k := k) (x := x) (n := n) (by omega) (by omega) (by omega) g2
  refine ⟨a1, a1, p4, p5, ⟨a3, p2, by omega⟩, ?_⟩
  rw [e1 k x (by omega) g4 (by omega) g2]
  rw [if_pos ⟨by omega, g2⟩, if_pos ⟨by omega, g4⟩] at h
  exact h
/-- write: row k becomes r, the number of rows stays -/
theorem c_write {k a b c : Int} (T : TdL M d e w n l) (h0 : 0 ≤ k) (h1 : k < n) (h : ∀ M', (∀ q z j, ¬ (q = 2 ∧ z = e) → M' q z j = M q z j) → (∀ x, 0 ≤ x → x < w → M' 2 e (k * w + x) = fld (a, b, c) x) → (∀ k' x, k' ≠ k → 0 ≤ x → x < w → M' 2 e (k' * w + x) = M 2 e (k' * w + x)) → Q 0 M') : Runs G 105 0 0 [(1, d), (0, k), (0, a), (0, b), (0, c)] M Q := by
  obtain ⟨⟨a1, a2, a3, a4⟩, ⟨b1, b2, b3, b4⟩, ⟨c1, c2⟩, e1⟩ := T
  refine rn_X10_write d k a b c M (sg_X10_write_0 d k a b c M ?_)
  rw [b1, a2]
  have f0 : fld (a, b, c) 0 = a := rfl
  have f1 : fld (a, b, c) 1 = b := rfl
  have f2 : fld (a, b, c) 2 = c := rfl
  have p : ∀ x, 0 ≤ x → x < w → 0 ≤ k * w ∧ 0 ≤ k * w + x ∧ k * w + x < w * n ∧ jR (k * w) ∧ jR (k * w + x) := fun x => td_in b3 b4 h0 h1
  have q := @td_ne
  have p0 := p 0 (by omega) (by omega)
  have hs : ∀ {N : JM} {j v : Int} (q : Nat) (z i : Int), ¬ (q = 2 ∧ z = e) → jset N 2 e j v q z i = N q z i := fun q z i g => if_neg fun u => g ⟨u.1, u.2.1⟩
  refine ⟨a1, p0.2.2.2.1, a1, ⟨a3, p0.1, by omega⟩, a1, fun g => ⟨a1, fun g2 => ?_, fun g2 => absurd g2 (by omega)⟩, fun g => ⟨a1, (p 1 (by omega) (by omega)).2.2.2.2, ⟨a3, (p 1 (by omega) (by omega)).2.1, by have := p 1 (by omega) (by omega); omega⟩, a1, fun g2 => ?_, fun g2 => ⟨a1, (p 2 (by omega) (by omega)).2.2.2.2, ⟨a3, (p 2 (by omega) (by omega)).2.1, by have := p 2 (by omega) (by omega); omega⟩, ?_⟩⟩⟩
  · have hw : w = 1 := by omega
    subst hw
    refine h _ (fun q z j g => hs q z j g) (fun x g3 g4 => ?_) (fun k' x g3 g4 g5 => ?_)
    · have : x = 0 := by omega
      subst this
      rw [Int.add_zero, jset_s]; rfl
    · exact jset_j (by omega) _ _
  · have hw : w = 2 := by omega
    subst hw
    refine h _ (fun q z j g => by rw [hs q z j g, hs q z j g]) (fun x g3 g4 => ?_) (fun k' x g3 g4 g5 => ?_)
    · have : x = 0 ∨ x = 1 := by omega
      rcases this with rfl | rfl
      · rw [jset_j (by omega), Int.add_zero, jset_s]; rfl
      · rw [jset_s]; rfl
    · rw [jset_j (by omega), jset_j (by omega)]
  · have hw : w = 3 := by omega
    subst hw
    refine h _ (fun q z j g => by rw [hs q z j g, hs q z j g, hs q z j g]) (fun x g3 g4 => ?_) (fun k' x g3 g4 g5 => ?_)
    · have : x = 0 ∨ x = 1 ∨ x = 2 := by omega
      rcases this with rfl | rfl | rfl
      · rw [jset_j (by omega), jset_j (by omega), Int.add_zero, jset_s]; rfl
      · rw [jset_j (by omega), jset_s]; rfl
      · rw [jset_s]; rfl
    · rw [jset_j (by omega), jset_j (by omega), jset_j (by omega)]
theorem c_add {a b c : Int} (T : TdL M d e w n l) (hl : (l.length : Int) < n) (h : ∀ M', Tof d e M M' → TdL M' d e w n (l ++ [(a, b, c)]) → Q 0 M') : Runs G 103 0 0 [(1, d), (0, a), (0, b), (0, c)] M Q := by
  have T0 := T
  obtain ⟨⟨a1, a2, a3, a4⟩, ⟨b1, b2, b3, b4⟩, ⟨c1, c2⟩, e1⟩ := T
  refine rn_X10_add d a b c M (sg_X10_add_0 d a b c M ⟨a1, a1, fun g => absurd g (by omega), fun _ => ⟨a1, a1, ?_⟩⟩)
  rw [c1]
  refine c_write T0 (by omega) hl (fun M1 k1 k2 k3 _ => ?_)
  have r1 : ∀ q, q ≠ 2 → M1 q d 0 = M q d 0 := fun q hq => k1 q d 0 (fun u => hq u.1)
  have r2 : ∀ q, q ≠ 2 → M1 q e 0 = M q e 0 := fun q hq => k1 q e 0 (fun u => hq u.1)
  have z1 : M1 3003 d 0 = l.length := by rw [r1 _ (by decide)]; exact c1
  rw [z1]
  have hlen : ((l ++ [(a, b, c)]).length : Int) = l.length + 1 := by rw [List.length_append]; rfl
  refine ⟨by rw [r1 _ (by decide)]; exact a1, by unfold jR; omega, by rw [r1 _ (by decide)]; exact a1, h _ (fun q z j g1 g2 => ?_) ⟨⟨?_, ?_, ?_, ?_⟩, ⟨?_, ?_, b3, b4⟩, ⟨?_, by omega⟩, fun k x g1 g2 g3 g4 => ?_⟩⟩
  · rw [show jset M1 3003 d 0 (↑l.length + 1) q z j = M1 q z j from if_neg fun u => g1 ⟨u.1, u.2.1⟩]
    exact k1 q z j g2
  · rw [jset_k (by decide), r1 _ (by decide)]; exact a1
  · rw [jset_k (by decide), r1 _ (by decide)]; exact a2
  · rw [jset_k (by decide), r2 _ (by decide)]; exact a3
  · rw [jset_k (by decide), r2 _ (by decide)]; exact a4
  · rw [jset_k (by decide), r1 _ (by decide)]; exact b1
  · rw [jset_k (by decide), r1 _ (by decide)]; exact b2
  · rw [jset_s, hlen]
  · rw [jset_k (by decide)]
    by_cases hk : k = l.length
    · subst hk
      rw [k2 x g3 g4, rowx_last]
    · rw [k3 k x hk g3 g4, rowx_app g1 (by omega)]
      exact e1 k x g1 (by omega) g3 g4
theorem c_rowOf {a b : Int} (T : TdL M d e w n l) (hw : 2 ≤ w) (h1 : ∀ k : Int, 0 ≤ k → k < l.length → rowx l k 0 = a → rowx l k 1 = b → (∀ j : Int, 0 ≤ j → j < k → ¬ (rowx l j 0 = a ∧ rowx l j 1 = b)) → Q k M) (h0 : (∀ j : Int, 0 ≤ j → j < l.length → ¬ (rowx l j 0 = a ∧ rowx l j 1 = b)) → Q (-1) M) : Runs G 106 0 0 [(1, d), (0, a), (0, b)] M Q := by
  have T0 := T
  obtain ⟨⟨a1, a2, a3, a4⟩, ⟨b1, b2, b3, b4⟩, ⟨c1, c2⟩, e1⟩ := T
  refine lp_X10_rowOf (fun v0 v1 v2 v3 N => N = M ∧ v0 = d ∧ v1 = a ∧ v2 = b ∧ 0 ≤ v3 ∧ v3 ≤ l.length ∧ ∀ j : Int, 0 ≤ j → j < v3 → ¬ (rowx l j 0 = a ∧ rowx l j 1 = b)) (fun _ _ _ v3 => (l.length - v3).toNat) ?_ d a b M ⟨rfl, rfl, rfl, rfl, by omega, by omega, fun j g1 g2 => by omega⟩
  rintro v0 v1 v2 v3 N ⟨rfl, rfl, rfl, rfl, i1, i2, i3⟩
  rw [c1]
  refine ⟨a1, fun g => h0 (fun j g1 g2 => i3 j g1 (by omega)), fun g => ⟨a1, c_answer T0 (fun _ => ?_)⟩⟩
  have t0 : tans w l v3 0 = rowx l v3 0 := by unfold tans; rw [if_pos (by omega), if_pos (by omega)]
  have t1 : tans w l v3 1 = rowx l v3 1 := by unfold tans; rw [if_pos (by omega), if_pos (by omega)]
  rw [t0]
  have nx : ¬ (rowx l v3 0 = v1 ∧ rowx l v3 1 = v2) → ∀ j : Int, 0 ≤ j → j < v3 + 1 → ¬ (rowx l j 0 = v1 ∧ rowx l j 1 = v2) := fun gn j g1 g2 => by
    by_cases hj : j = v3
    · subst hj; exact gn
    · exact i3 j g1 (by omega)
  refine ⟨fun g2 => ⟨by unfold jR; omega, ⟨rfl, rfl, rfl, rfl, by omega, by omega, nx (fun u => g2 u.1)⟩, by omega⟩, fun g2 => ⟨a1, c_answer T0 (fun _ => ?_)⟩⟩
  rw [t1]
  exact ⟨fun g3 => ⟨by unfold jR; omega, ⟨rfl, rfl, rfl, rfl, by omega, by omega, nx (fun u => g3 u.2)⟩, by omega⟩, fun g3 => h1 v3 i1 (by omega) (by omega) (by omega) i3⟩
end TOLD
