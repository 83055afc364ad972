/-! what holds when both objects have just been made -/
def pci (i k : Nat) (v : Int) : Bool := match PF[i]? with
  | some c => decide (plk c.2.2.1 k = none) && decide ((plk c.2.2.2.1 k).getD 0 = v)
  | none => false
theorem Has.num {M M0 : JM} {X : Int} (h : Has M M0 X PF) {i k : Nat} {v : Int} (hc : pci i k v = true) (hk : 100 ≤ k) : M k (X + i) 0 = v := by
  unfold pci at hc
  split at hc
  · rename_i c hi
    simp only [Bool.and_eq_true, decide_eq_true_eq] at hc
    rw [(h.at hi).2.2.1 k hk]
    unfold pfld
    rw [hc.1]
    exact hc.2
  · cases hc
def pcs : List (Nat × Nat × Int) := [(0, 1212, 0), (0, 1213, 0), (1, 2402, 0), (1, 2403, 0), (1, 2404, 0), (1, 2405, 0), (164, 2202, 0), (199, 2603, -1), (200, 3001, 3), (200, 3002, 240), (200, 3003, 0), (205, 3001, 1), (205, 3002, 241), (205, 3003, 0), (208, 3001, 2), (208, 3002, 3840), (208, 3003, 0), (210, 3001, 1), (210, 3002, 240), (210, 3003, 0), (212, 3001, 3), (212, 3002, 240), (212, 3003, 0), (214, 3001, 3), (214, 3002, 240), (214, 3003, 0), (216, 3001, 2), (216, 3002, 240), (216, 3003, 0), (144, 2810, 0), (144, 2811, -1), (144, 2812, -1), (218, 3200, 0), (218, 3203, 0), (218, 3210, 0), (218, 3213, 0), (218, 3216, 0), (218, 3227, 0), (218, 3235, 0), (218, 3239, 0), (218, 3242, 0), (218, 3243, -1), (218, 3249, 0)]
set_option maxRecDepth 100000 in
theorem pcs_ok : (pcs.all (fun q => pci q.1 q.2.1 q.2.2 && Nat.ble 100 q.2.1) && ((List.range 40).all (fun t => pci (4 + 2 * t) 2901 0) && ((List.range 20).all (fun s => pci (85 + 3 * s) 2901 0) && (List.range 16).all (fun q => pci (167 + 2 * q) 2901 0)))) = true := by decide +kernel
theorem pcs_get {M M0 : JM} {X : Int} (h : Has M M0 X PF) {i k : Nat} {v : Int} (hm : (i, k, v) ∈ pcs) : M k (X + i) 0 = v := by
  have g := pcs_ok
  simp only [Bool.and_eq_true] at g
  have := List.all_eq_true.mp g.1 _ hm
  simp only [Bool.and_eq_true] at this
  exact h.num this.1 (Nat.le_of_ble_eq_true this.2)
theorem sz0 {M M0 : JM} {X : Int} (h : Has M M0 X PF) : (∀ t : Int, 0 ≤ t → t < 40 → M 2901 (X + (4 + 2 * t)) 0 = 0) ∧ (∀ t : Int, 0 ≤ t → t < 20 → M 2901 (X + (85 + 3 * t)) 0 = 0) ∧ ∀ t : Int, 0 ≤ t → t < 16 → M 2901 (X + (167 + 2 * t)) 0 = 0 := by
  have g := pcs_ok
  simp only [Bool.and_eq_true] at g
  refine ⟨fun t h0 h1 => ?_, fun t h0 h1 => ?_, fun t h0 h1 => ?_⟩
  · obtain ⟨n, rfl⟩ := Int.eq_ofNat_of_zero_le h0
    have := h.num (List.all_eq_true.mp g.2.1 n (List.mem_range.mpr (by omega))) (show 100 ≤ 2901 by decide)
    rw [show ((4 + 2 * n : Nat) : Int) = 4 + 2 * (n : Int) by omega] at this
    exact this
  · obtain ⟨n, rfl⟩ := Int.eq_ofNat_of_zero_le h0
    have := h.num (List.all_eq_true.mp g.2.2.1 n (List.mem_range.mpr (by omega))) (show 100 ≤ 2901 by decide)
    rw [show ((85 + 3 * n : Nat) : Int) = 85 + 3 * (n : Int) by omega] at this
    exact this
  · obtain ⟨n, rfl⟩ := Int.eq_ofNat_of_zero_le h0
    have := h.num (List.all_eq_true.mp g.2.2.2 n (List.mem_range.mpr (by omega))) (show 100 ≤ 2901 by decide)
    rw [show ((167 + 2 * n : Nat) : Int) = 167 + 2 * (n : Int) by omega] at this
    exact this
theorem td0 {M : JM} {d e w n c : Int} (h1 : M 0 d 0 = 20) (h2 : M 1100 d 0 = e) (h3 : M 0 e 0 = 1) (h4 : M 1 e 0 = c) (h4' : c = w * n) (h5 : M 3001 d 0 = w) (h6 : M 3002 d 0 = n) (h7 : M 3003 d 0 = 0) (h8 : w = 1 ∨ w = 2 ∨ w = 3) (h9 : 0 ≤ n ∧ n ≤ 10000) : TdL M d e w n [] := ⟨⟨h1, h2, h3, h4.trans h4'⟩, ⟨h5, h6, h8, h9.2⟩, ⟨h7, h9.1⟩, fun k x g1 g2 => by have g2 : k < ((0 : Nat) : Int) := g2; omega⟩
/-- nothing yet -/
def T0 : ATx := (0, fun _ => 0, fun _ _ => 0)
def K0 : AKp := (0, fun _ => 0, fun _ => 0, fun _ => 0, fun _ _ => 0)
def D0 : ADt := (fun _ => [], -1)
theorem AI0 : AI T0 K0 T0 D0 := ⟨⟨Int.le_refl 0, by decide, fun t h0 h1 => by have h1 : t < 0 := h1; omega⟩, ⟨Int.le_refl 0, by decide, fun _ => 0, rfl, fun k h0 h1 => by have h1 : k < 0 := h1; omega⟩, ⟨Int.le_refl 0, by decide, fun t h0 h1 => by have h1 : t < 0 := h1; omega⟩, Or.inl ⟨rfl, rfl⟩, Or.inl rfl⟩
theorem rd10 {M : JM} {X : Int} {c : Nat} {p : Int} (h : M c (X + 218) 0 = 0) : RD1 X M c p [] := ⟨h, fun k g1 g2 => by have g2 : k < ((0 : Nat) : Int) := g2; omega⟩
theorem rd20 {M : JM} {X : Int} {c : Nat} {p q : Int} (h : M c (X + 218) 0 = 0) : RD2 X M c p q [] := ⟨h, fun k g1 g2 => by have g2 : k < ((0 : Nat) : Int) := g2; omega⟩
theorem rd30 {M : JM} {X : Int} {c : Nat} {p q r : Int} (h : M c (X + 218) 0 = 0) : RD3 X M c p q r [] := ⟨h, fun k g1 g2 => by have g2 : k < ((0 : Nat) : Int) := g2; omega⟩
theorem CB0 {M M0 : JM} {X : Int} (h : Has M M0 X PF) : CB X 0 M T0 K0 T0 D0 ∧ CH X M T0 ∧ RI X M T0 K0 T0 D0 ∧ 0 < X ∧ M 1212 X 0 = 0 ∧ M 1213 X 0 = 0 := by
  have W := WSt.of h
  have g := fun (i k : Nat) (v : Int) (hm : (i, k, v) ∈ pcs) => pcs_get h hm
  obtain ⟨z1, z2, z3⟩ := sz0 h
  have a12 : M 1212 X 0 = 0 := by have := g 0 1212 0 (by decide); rw [show X + ((0 : Nat) : Int) = X by omega] at this; exact this
  have a13 : M 1213 X 0 = 0 := by have := g 0 1213 0 (by decide); rw [show X + ((0 : Nat) : Int) = X by omega] at this; exact this
  have c5 : M 2405 (X + 1) 0 = 0 := g 1 2405 0 (by decide)
  have c3 : M 2403 (X + 1) 0 = 0 := g 1 2403 0 (by decide)
  have h12 : M 2812 (X + 144) 0 = -1 := g 144 2812 (-1) (by decide)
  refine ⟨⟨W, ⟨g 1 2402 0 (by decide), fun t h0 h1 => by have h1 : t < 0 := h1; omega⟩, ⟨fun t h0 h1 => by rw [z1 t h0 h1]; omega, fun t h0 h1 => by rw [z2 t h0 h1]; omega⟩, ⟨g 1 2404 0 (by decide), by rw [c3]; omega, by rw [c5]; omega, fun k h0 h1 => by have h1 : k < 0 := h1; omega⟩, ⟨⟨g 164 2202 0 (by decide), fun t h0 h1 => by rw [z3 t h0 h1]; omega⟩, fun t h0 h1 => by have h1 : t < 0 := h1; omega⟩, ⟨td0 (w_tmatches_t W) (w_tmatches_1100 W) (w_cmatches_t W) (w_cmatches_n W) (by decide) (g 208 3001 2 (by decide)) (g 208 3002 3840 (by decide)) (g 208 3003 0 (by decide)) (by decide) (by decide), td0 (w_twords_t W) (w_twords_1100 W) (w_cwords_t W) (w_cwords_n W) (by decide) (g 210 3001 1 (by decide)) (g 210 3002 240 (by decide)) (g 210 3003 0 (by decide)) (by decide) (by decide), td0 (w_truns_t W) (w_truns_1100 W) (w_cruns_t W) (w_cruns_n W) (by decide) (g 212 3001 3 (by decide)) (g 212 3002 240 (by decide)) (g 212 3003 0 (by decide)) (by decide) (by decide), td0 (w_tsteps_t W) (w_tsteps_1100 W) (w_csteps_t W) (w_csteps_n W) (by decide) (g 214 3001 3 (by decide)) (g 214 3002 240 (by decide)) (g 214 3003 0 (by decide)) (by decide) (by decide), td0 (w_tpairs_t W) (w_tpairs_1100 W) (w_cpairs_t W) (w_cpairs_n W) (by decide) (g 216 3001 2 (by decide)) (g 216 3002 240 (by decide)) (g 216 3003 0 (by decide)) (by decide) (by decide), td0 (w_qitems_t W) (w_qitems_1100 W) (w_qcells_t W) (w_qcells_n W) (by decide) (g 200 3001 3 (by decide)) (g 200 3002 240 (by decide)) (g 200 3003 0 (by decide)) (by decide) (by decide), td0 (w_olast_t W) (w_olast_1100 W) (w_ocells_t W) (w_ocells_n W) (by decide) (g 205 3001 1 (by decide)) (g 205 3002 241 (by decide)) (g 205 3003 0 (by decide)) (by decide) (by decide), g 199 2603 (-1) (by decide)⟩, ⟨by rw [h.1, PF_len]; omega, Or.inl a12, Or.inl a13, Or.inl a12⟩⟩, ⟨⟨by rw [h12, c5]; omega, fun e => by rw [h12, c5] at e; omega⟩, Or.inl a12⟩, ⟨W, ⟨g 218 3200 0 (by decide), fun t h0 h1 => by have h1 : t < 0 := h1; omega⟩, ⟨g 218 3203 0 (by decide), fun t h0 h1 => by have h1 : t < 0 := h1; omega⟩, ⟨g 218 3210 0 (by decide), fun t h0 h1 => by have h1 : t < 0 := h1; omega⟩, rd20 (g 218 3213 0 (by decide)), rd10 (g 218 3216 0 (by decide)), rd30 (g 218 3227 0 (by decide)), rd30 (g 218 3235 0 (by decide)), rd20 (g 218 3239 0 (by decide)), rd30 (g 218 3242 0 (by decide)), rd10 (g 218 3249 0 (by decide)), g 218 3243 (-1) (by decide)⟩, h.2.1, a12, a13⟩
