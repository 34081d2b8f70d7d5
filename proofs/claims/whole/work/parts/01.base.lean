/-! numbers, indices, ranges -/
theorem ds_us {f : Nat → Int32} {k : Nat} {x : Int32} : upd f k x k = x := if_pos rfl
theorem ds_un {f : Nat → Int32} {k j : Nat} {x : Int32} (h : j ≠ k) : upd f k x j = f j := if_neg h
theorem ds_ud (f : Nat → Int32) (k j : Nat) (x : Int32) : upd f k x j = if j = k then x else f j := rfl
theorem ds_uv {f : Nat → Int32} {k : Nat} {x : Int32} (h : f k = x) : upd f k x = f := by
  funext j
  by_cases e : j = k
  · rw [e, ds_us, h]
  · exact ds_un e
theorem ds_mul (a b : Nat) : nI a * nI b = nI (a * b) := (Int32.ofNat_mul a b).symm
theorem ds_m1 (n : Nat) : nI (n + 1) + (-1) = nI n := by
  rw [← nI_1, Int32.add_assoc, show (1 : Int32) + (-1) = 0 from rfl, Int32.add_zero]
theorem ds_80 : (80 : Int32) = nI 80 := by decide +kernel
theorem ds_8 : (8 : Int32) = nI 8 := by decide +kernel
theorem ds_3 : (3 : Int32) = nI 3 := by decide +kernel
theorem ds_ix (n r : Nat) : nI n * 80 + nI r = nI (n * 80 + r) := by rw [ds_80, ds_mul, nI_add]
theorem ds_iy (n r : Nat) : 80 * nI n + nI r = nI (n * 80 + r) := by rw [ds_80, ds_mul, nI_add, Nat.mul_comm]
theorem ds_jx (n r : Nat) : nI n * 8 + nI r = nI (n * 8 + r) := by rw [ds_8, ds_mul, nI_add]
theorem ds_jy (n r : Nat) : 8 * nI n + nI r = nI (n * 8 + r) := by rw [ds_8, ds_mul, nI_add, Nat.mul_comm]
theorem ds_vx {n r : Nat} (hn : n < 3) (hr : r < 80) : vp_in (nI n * 80 + nI r) 240 := by rw [ds_ix]; exact vp_in_nI (by omega) (by omega)
theorem ds_vy {n r : Nat} (hn : n < 3) (hr : r < 80) : vp_in (80 * nI n + nI r) 240 := by rw [ds_iy]; exact vp_in_nI (by omega) (by omega)
theorem ds_wx {n r : Nat} (hn : n < 3) (hr : r < 8) : vp_in (nI n * 8 + nI r) 24 := by rw [ds_jx]; exact vp_in_nI (by omega) (by omega)
theorem ds_wy {n r : Nat} (hn : n < 3) (hr : r < 8) : vp_in (8 * nI n + nI r) 24 := by rw [ds_jy]; exact vp_in_nI (by omega) (by omega)
theorem ds_v {r : Nat} (hr : r < 80) : vp_in (nI r) 80 := vp_in_nI hr (by omega)
theorem ds_w {r : Nat} (hr : r < 3) : vp_in (nI r) 3 := vp_in_nI hr (by omega)
theorem ds_c {r : Nat} (hr : r < 80) : (nI r).toNatClampNeg = r := nI_clamp (by omega)
theorem ds_cx {n r : Nat} (hn : n < 3) (hr : r < 80) : (nI n * 80 + nI r).toNatClampNeg = n * 80 + r := by rw [ds_ix, nI_clamp (by omega)]
theorem ds_cy {n r : Nat} (hn : n < 3) (hr : r < 80) : (80 * nI n + nI r).toNatClampNeg = n * 80 + r := by rw [ds_iy, nI_clamp (by omega)]
theorem ds_dx {n r : Nat} (hn : n < 3) (hr : r < 8) : (nI n * 8 + nI r).toNatClampNeg = n * 8 + r := by rw [ds_jx, nI_clamp (by omega)]
theorem ds_dy {n r : Nat} (hn : n < 3) (hr : r < 8) : (8 * nI n + nI r).toNatClampNeg = n * 8 + r := by rw [ds_jy, nI_clamp (by omega)]
/-! branches over a cell whose index is known: e gives the index, z the cell -/
theorem ds_bt {f : Nat → Int32} {i j : Nat} {x : Int32} {A B : Prop} (e : i = j) (z : f j = x) (a : A) : (f i = x → A) ∧ (¬ f i = x → B) := by
  subst e; exact br_t z a
theorem ds_bf {f : Nat → Int32} {i j : Nat} {x : Int32} {A B : Prop} (e : i = j) (z : ¬ f j = x) (b : B) : (f i = x → A) ∧ (¬ f i = x → B) := by
  subst e; exact br_f z b
theorem ds_nn {j : Nat} (h : j < 80) : ¬ nI j = -1000000003 := by
  intro e
  have h1 := congrArg Int32.toInt e
  rw [nI_toInt (by omega), show (-1000000003 : Int32).toInt = -1000000003 from by decide +kernel] at h1
  omega
theorem ds_n1 {j : Nat} (h : j < 80) : ¬ nI j = -1 := by
  intro e
  have h1 := congrArg Int32.toInt e
  rw [nI_toInt (by omega), show (-1 : Int32).toInt = -1 from by decide +kernel] at h1
  omega
theorem ds_neg : (-1 : Int32) < 0 := by decide
theorem ds_nI {a b : Nat} (ha : a < 80) (hb : b < 80) (h : nI a = nI b) : a = b := (nI_eq (by omega) (by omega)).mp h
theorem ds_b0 : vp_nar .boolean 0 = 0 := by decide
theorem ds_b1 : vp_nar .boolean 1 = 1 := by decide
theorem ds_bz {z : Int32} (h : z = 0 ∨ z = 1) : vp_nar .boolean z = z := by rcases h with rfl | rfl <;> decide
theorem ds_nb {z : Int32} (h : z = 0 ∨ z = 1) : narrow .boolean (.int z) = .int z := by rcases h with rfl | rfl <;> rfl
theorem ds_10 : ¬ (1 : Int32) = 0 := by decide
section
variable {m : Nat} {D Pa Pb V G M K B C S : Nat → Int32}
theorem ds_stX {n : Nat} (hn : n < 3) {post : Int32 → Prop} (h : post 1) : wpX_isStore post (nI n) :=
  br_f (nI_pos (by omega)) (br_f (nI_ge (b := 3) hn (by decide)) h)
theorem ds_stY {n : Nat} (hn : n < 3) {post : Int32 → Prop} (h : post 1) : wpY_isStore post ((nI m), D, Pb, V, M, K, B, C, S) (nI n) :=
  br_f (nI_pos (by omega)) (br_f (nI_nlt (b := n) (a := 2) (by omega) (by decide)) h)
theorem ds_doX {n : Nat} (hn : n < 8) {post : Int32 → Prop} (h : post 1) : wpX_isDocument post (nI n) :=
  br_f (nI_pos (by omega)) (br_f (nI_ge (b := 8) hn (by decide)) h)
/-- an int is a store's number, or both sides say no -/
theorem ds_st (p : Int32) : (∃ n, n < 3 ∧ p = nI n) ∨ ((∀ post : Int32 → Prop, post 0 → wpX_isStore post p) ∧ (∀ (v : SY) (post : Int32 → Prop), post 0 → wpY_isStore post v p)) := by
  by_cases h : p < 0
  · exact .inr ⟨fun _ hp => br_t h hp, fun ⟨_, _, _, _, _, _, _, _, _⟩ _ hp => br_t h hp⟩
  · obtain ⟨j, hj, rfl⟩ := nI_of h
    by_cases h2 : j < 3
    · exact .inl ⟨j, h2, rfl⟩
    · exact .inr ⟨fun _ hp => br_f h (br_t (nI_le (a := 3) (by omega) (by omega)) hp), fun ⟨_, _, _, _, _, _, _, _, _⟩ _ hp => br_f h (br_t (nI_lt (a := 2) (by omega) (by omega)) hp)⟩
theorem ds_do (p : Int32) : (∃ n, n < 8 ∧ p = nI n) ∨ ((∀ post : Int32 → Prop, post 0 → wpX_isDocument post p) ∧ (p < 0 ∨ (¬ p < 0 ∧ 7 < p))) := by
  by_cases h : p < 0
  · exact .inr ⟨fun _ hp => br_t h hp, .inl h⟩
  · obtain ⟨j, hj, rfl⟩ := nI_of h
    by_cases h2 : j < 8
    · exact .inl ⟨j, h2, rfl⟩
    · exact .inr ⟨fun _ hp => br_f h (br_t (nI_le (a := 8) (by omega) (by omega)) hp), .inr ⟨h, nI_lt (a := 7) (by omega) (by omega)⟩⟩
theorem ds_dcY {n d : Nat} (hn : n < 3) (hd : d < 8) {post : Int32 → Prop} (h : post 1) : wpY_isDocument post ((nI m), D, Pb, V, M, K, B, C, S) (nI n) (nI d) := by
  unfold wpY_isDocument
  exact ds_stY hn (br_f ds_10 (br_f (nI_pos (by omega)) (br_f (nI_nlt (b := d) (a := 7) (by omega) (by decide)) h)))
/-- both arguments: in range, or both sides take their bad road -/
theorem ds_ar (p q : Int32) : (∃ n d, n < 3 ∧ d < 8 ∧ p = nI n ∧ q = nI d) ∨
    ((∀ bad rest : Prop, bad → wpX_isStore (fun r => (r = 0 → bad) ∧ (¬ r = 0 → wpX_isDocument (fun s => (s = 0 → bad) ∧ (¬ s = 0 → rest)) q)) p) ∧
     (∀ (v : SY) (bad rest : Prop), bad → wpY_isDocument (fun r => (r = 0 → bad) ∧ (¬ r = 0 → rest)) v p q)) := by
  rcases ds_st p with ⟨n, hn, rfl⟩ | ⟨hX, hY⟩
  · rcases ds_do q with ⟨d, hd, rfl⟩ | ⟨hX, hq⟩
    · exact .inl ⟨n, d, hn, hd, rfl, rfl⟩
    · refine .inr ⟨fun bad rest hb => ds_stX hn (br_f ds_10 (hX _ (br_t rfl hb))), fun ⟨_, _, _, _, _, _, _, _, _⟩ bad rest hb => ?_⟩
      unfold wpY_isDocument
      refine br_f (nI_pos (by omega)) (br_f (nI_nlt (b := n) (a := 2) (by omega) (by decide)) (br_f ds_10 ?_))
      rcases hq with h | ⟨h, h'⟩
      · exact br_t h (br_t rfl hb)
      · exact br_f h (br_t h' (br_t rfl hb))
  · refine .inr ⟨fun bad rest hb => hX _ (br_t rfl hb), fun ⟨_, _, _, _, _, _, _, _, _⟩ bad rest hb => ?_⟩
    unfold wpY_isDocument
    exact hY _ _ (br_t rfl (br_t rfl hb))
theorem ds_okX {n d : Nat} (hn : n < 3) (hd : d < 8) {bad rest : Prop} (h : rest) : wpX_isStore (fun r => (r = 0 → bad) ∧ (¬ r = 0 → wpX_isDocument (fun s => (s = 0 → bad) ∧ (¬ s = 0 → rest)) (nI d))) (nI n) :=
  ds_stX hn (br_f ds_10 (ds_doX hd (br_f ds_10 h)))
theorem ds_okY {n d : Nat} (hn : n < 3) (hd : d < 8) {bad rest : Prop} (h : rest) : wpY_isDocument (fun r => (r = 0 → bad) ∧ (¬ r = 0 → rest)) ((nI m), D, Pb, V, M, K, B, C, S) (nI n) (nI d) :=
  ds_dcY hn hd (br_f ds_10 h)
theorem ds_sX {n : Nat} (hn : n < 3) {bad rest : Prop} (h : rest) : wpX_isStore (fun r => (r = 0 → bad) ∧ (¬ r = 0 → rest)) (nI n) :=
  ds_stX hn (br_f ds_10 h)
theorem ds_sY {n : Nat} (hn : n < 3) {bad rest : Prop} (h : rest) : wpY_isStore (fun r => (r = 0 → bad) ∧ (¬ r = 0 → rest)) ((nI m), D, Pb, V, M, K, B, C, S) (nI n) :=
  ds_stY hn (br_f ds_10 h)
theorem ds_kn (hK : ∀ j, K j = 0 ∨ K j = 1) {n r : Nat} (hn : n < 3) (hr : r < 80) {post : Int32 → Prop} (h : post (K (n * 80 + r))) : wpY_knowsIt post ((nI m), D, Pb, V, M, K, B, C, S) (nI n) (nI r) := by
  refine ⟨ds_vy hn hr, ?_⟩
  rw [ds_cy hn hr]
  exact ⟨ds_nb (hK _), h⟩
end
