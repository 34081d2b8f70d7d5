section
/-! numbers, indices, ranges -/
theorem ds_us {f : Nat → Int32} {k : Nat} {x : Int32} : upd f k x k = x := if_pos rfl
theorem ds_un {f : Nat → Int32} {k j : Nat} {x : Int32} (h : j ≠ k) : upd f k x j = f j := if_neg h
theorem ds_ud (f : Nat → Int32) (k j : Nat) (x : Int32) : upd f k x j = if j = k then x else f j := rfl
theorem ds_uv {f : Nat → Int32} {k : Nat} {x : Int32} (h : f k = x) : upd f k x = f := by
  funext j
  by_cases e : j = k
  · rw [e, ds_us, h]
  · exact ds_un e
theorem ds_mul (a b : Nat) : nI a * nI b = nI (a * b) := (Int32.ofNat_mul a b).symm
theorem ds_m1 (n : Nat) : nI (n + 1) + (-1) = nI n := by
  rw [← nI_1, Int32.add_assoc, show (1 : Int32) + (-1) = 0 from rfl, Int32.add_zero]
theorem ds_80 : (80 : Int32) = nI 80 := by decide +kernel
theorem ds_8 : (8 : Int32) = nI 8 := by decide +kernel
theorem ds_3 : (3 : Int32) = nI 3 := by decide +kernel
theorem ds_ix (n r : Nat) : nI n * 80 + nI r = nI (n * 80 + r) := by rw [ds_80, ds_mul, nI_add]
theorem ds_iy (n r : Nat) : 80 * nI n + nI r = nI (n * 80 + r) := by rw [ds_80, ds_mul, nI_add, Nat.mul_comm]
theorem ds_jx (n r : Nat) : nI n * 8 + nI r = nI (n * 8 + r) := by rw [ds_8, ds_mul, nI_add]
theorem ds_jy (n r : Nat) : 8 * nI n + nI r = nI (n * 8 + r) := by rw [ds_8, ds_mul, nI_add, Nat.mul_comm]
theorem ds_vx {n r : Nat} (hn : n < 3) (hr : r < 80) : vp_in (nI n * 80 + nI r) 240 := by rw [ds_ix]; exact vp_in_nI (by omega) (by omega)
theorem ds_vy {n r : Nat} (hn : n < 3) (hr : r < 80) : vp_in (80 * nI n + nI r) 240 := by rw [ds_iy]; exact vp_in_nI (by omega) (by omega)
theorem ds_wx {n r : Nat} (hn : n < 3) (hr : r < 8) : vp_in (nI n * 8 + nI r) 24 := by rw [ds_jx]; exact vp_in_nI (by omega) (by omega)
theorem ds_wy {n r : Nat} (hn : n < 3) (hr : r < 8) : vp_in (8 * nI n + nI r) 24 := by rw [ds_jy]; exact vp_in_nI (by omega) (by omega)
theorem ds_v {r : Nat} (hr : r < 80) : vp_in (nI r) 80 := vp_in_nI hr (by omega)
theorem ds_w {r : Nat} (hr : r < 3) : vp_in (nI r) 3 := vp_in_nI hr (by omega)
theorem ds_c {r : Nat} (hr : r < 80) : (nI r).toNatClampNeg = r := nI_clamp (by omega)
theorem ds_cx {n r : Nat} (hn : n < 3) (hr : r < 80) : (nI n * 80 + nI r).toNatClampNeg = n * 80 + r := by rw [ds_ix, nI_clamp (by omega)]
theorem ds_cy {n r : Nat} (hn : n < 3) (hr : r < 80) : (80 * nI n + nI r).toNatClampNeg = n * 80 + r := by rw [ds_iy, nI_clamp (by omega)]
theorem ds_dx {n r : Nat} (hn : n < 3) (hr : r < 8) : (nI n * 8 + nI r).toNatClampNeg = n * 8 + r := by rw [ds_jx, nI_clamp (by omega)]
theorem ds_dy {n r : Nat} (hn : n < 3) (hr : r < 8) : (8 * nI n + nI r).toNatClampNeg = n * 8 + r := by rw [ds_jy, nI_clamp (by omega)]
/-! branches over a cell whose index is known: e gives the index, z the cell -/
theorem ds_bt {f : Nat → Int32} {i j : Nat} {x : Int32} {A B : Prop} (e : i = j) (z : f j = x) (a : A) : (f i = x → A) ∧ (¬ f i = x → B) := by
  subst e; exact br_t z a
theorem ds_bf {f : Nat → Int32} {i j : Nat} {x : Int32} {A B : Prop} (e : i = j) (z : ¬ f j = x) (b : B) : (f i = x → A) ∧ (¬ f i = x → B) := by
  subst e; exact br_f z b
theorem ds_nn {j : Nat} (h : j < 80) : ¬ nI j = -1000000003 := by
  intro e
  have h1 := congrArg Int32.toInt e
  rw [nI_toInt (by omega), show (-1000000003 : Int32).toInt = -1000000003 from by decide +kernel] at h1
  omega
theorem ds_n1 {j : Nat} (h : j < 80) : ¬ nI j = -1 := by
  intro e
  have h1 := congrArg Int32.toInt e
  rw [nI_toInt (by omega), show (-1 : Int32).toInt = -1 from by decide +kernel] at h1
  omega
theorem ds_neg : (-1 : Int32) < 0 := by decide
theorem ds_nI {a b : Nat} (ha : a < 80) (hb : b < 80) (h : nI a = nI b) : a = b := (nI_eq (by omega) (by omega)).mp h
theorem ds_b0 : vp_nar .boolean 0 = 0 := by decide
theorem ds_b1 : vp_nar .boolean 1 = 1 := by decide
theorem ds_bz {z : Int32} (h : z = 0 ∨ z = 1) : vp_nar .boolean z = z := by rcases h with rfl | rfl <;> decide
theorem ds_nb {z : Int32} (h : z = 0 ∨ z = 1) : narrow .boolean (.int z) = .int z := by rcases h with rfl | rfl <;> rfl
theorem ds_10 : ¬ (1 : Int32) = 0 := by decide
section
variable {m : Nat} {D Pa Pb V G M K B C S : Nat → Int32}
theorem ds_stX {n : Nat} (hn : n < 3) {post : Int32 → Prop} (h : post 1) : wpX_isStore post (nI n) :=
  br_f (nI_pos (by omega)) (br_f (nI_ge (b := 3) hn (by decide)) h)
theorem ds_stY {n : Nat} (hn : n < 3) {post : Int32 → Prop} (h : post 1) : wpY_isStore post ((nI m), D, Pb, V, M, K, B, C, S) (nI n) :=
  br_f (nI_pos (by omega)) (br_f (nI_nlt (b := n) (a := 2) (by omega) (by decide)) h)
theorem ds_doX {n : Nat} (hn : n < 8) {post : Int32 → Prop} (h : post 1) : wpX_isDocument post (nI n) :=
  br_f (nI_pos (by omega)) (br_f (nI_ge (b := 8) hn (by decide)) h)
/-- an int is a store's number, or both sides say no -/
theorem ds_st (p : Int32) : (∃ n, n < 3 ∧ p = nI n) ∨ ((∀ post : Int32 → Prop, post 0 → wpX_isStore post p) ∧ (∀ (v : SY) (post : Int32 → Prop), post 0 → wpY_isStore post v p)) := by
  by_cases h : p < 0
  · exact .inr ⟨fun _ hp => br_t h hp, fun ⟨_, _, _, _, _, _, _, _, _⟩ _ hp => br_t h hp⟩
  · obtain ⟨j, hj, rfl⟩ := nI_of h
    by_cases h2 : j < 3
    · exact .inl ⟨j, h2, rfl⟩
    · exact .inr ⟨fun _ hp => br_f h (br_t (nI_le (a := 3) (by omega) (by omega)) hp), fun ⟨_, _, _, _, _, _, _, _, _⟩ _ hp => br_f h (br_t (nI_lt (a := 2) (by omega) (by omega)) hp)⟩
theorem ds_do (p : Int32) : (∃ n, n < 8 ∧ p = nI n) ∨ ((∀ post : Int32 → Prop, post 0 → wpX_isDocument post p) ∧ (p < 0 ∨ (¬ p < 0 ∧ 7 < p))) := by
  by_cases h : p < 0
  · exact .inr ⟨fun _ hp => br_t h hp, .inl h⟩
  · obtain ⟨j, hj, rfl⟩ := nI_of h
    by_cases h2 : j < 8
    · exact .inl ⟨j, h2, rfl⟩
    · exact .inr ⟨fun _ hp => br_f h (br_t (nI_le (a := 8) (by omega) (by omega)) hp), .inr ⟨h, nI_lt (a := 7) (by omega) (by omega)⟩⟩
theorem ds_dcY {n d : Nat} (hn : n < 3) (hd : d < 8) {post : Int32 → Prop} (h : post 1) : wpY_isDocument post ((nI m), D, Pb, V, M, K, B, C, S) (nI n) (nI d) := by
  unfold wpY_isDocument
  exact ds_stY hn (br_f ds_10 (br_f (nI_pos (by omega)) (br_f (nI_nlt (b := d) (a := 7) (by omega) (by decide)) h)))
/-- both arguments: in range, or both sides take their bad road -/
theorem ds_ar (p q : Int32) : (∃ n d, n < 3 ∧ d < 8 ∧ p = nI n ∧ q = nI d) ∨
    ((∀ bad rest : Prop, bad → wpX_isStore (fun r => (r = 0 → bad) ∧ (¬ r = 0 → wpX_isDocument (fun s => (s = 0 → bad) ∧ (¬ s = 0 → rest)) q)) p) ∧
     (∀ (v : SY) (bad rest : Prop), bad → wpY_isDocument (fun r => (r = 0 → bad) ∧ (¬ r = 0 → rest)) v p q)) := by
  rcases ds_st p with ⟨n, hn, rfl⟩ | ⟨hX, hY⟩
  · rcases ds_do q with ⟨d, hd, rfl⟩ | ⟨hX, hq⟩
    · exact .inl ⟨n, d, hn, hd, rfl, rfl⟩
    · refine .inr ⟨fun bad rest hb => ds_stX hn (br_f ds_10 (hX _ (br_t rfl hb))), fun ⟨_, _, _, _, _, _, _, _, _⟩ bad rest hb => ?_⟩
      unfold wpY_isDocument
      refine br_f (nI_pos (by omega)) (br_f (nI_nlt (b := n) (a := 2) (by omega) (by decide)) (br_f ds_10 ?_))
      rcases hq with h | ⟨h, h'⟩
      · exact br_t h (br_t rfl hb)
      · exact br_f h (br_t h' (br_t rfl hb))
  · refine .inr ⟨fun bad rest hb => hX _ (br_t rfl hb), fun ⟨_, _, _, _, _, _, _, _, _⟩ bad rest hb => ?_⟩
    unfold wpY_isDocument
    exact hY _ _ (br_t rfl (br_t rfl hb))
theorem ds_okX {n d : Nat} (hn : n < 3) (hd : d < 8) {bad rest : Prop} (h : rest) : wpX_isStore (fun r => (r = 0 → bad) ∧ (¬ r = 0 → wpX_isDocument (fun s => (s = 0 → bad) ∧ (¬ s = 0 → rest)) (nI d))) (nI n) :=
  ds_stX hn (br_f ds_10 (ds_doX hd (br_f ds_10 h)))
theorem ds_okY {n d : Nat} (hn : n < 3) (hd : d < 8) {bad rest : Prop} (h : rest) : wpY_isDocument (fun r => (r = 0 → bad) ∧ (¬ r = 0 → rest)) ((nI m), D, Pb, V, M, K, B, C, S) (nI n) (nI d) :=
  ds_dcY hn hd (br_f ds_10 h)
theorem ds_sX {n : Nat} (hn : n < 3) {bad rest : Prop} (h : rest) : wpX_isStore (fun r => (r = 0 → bad) ∧ (¬ r = 0 → rest)) (nI n) :=
  ds_stX hn (br_f ds_10 h)
theorem ds_sY {n : Nat} (hn : n < 3) {bad rest : Prop} (h : rest) : wpY_isStore (fun r => (r = 0 → bad) ∧ (¬ r = 0 → rest)) ((nI m), D, Pb, V, M, K, B, C, S) (nI n) :=
  ds_stY hn (br_f ds_10 h)
theorem ds_kn (hK : ∀ j, K j = 0 ∨ K j = 1) {n r : Nat} (hn : n < 3) (hr : r < 80) {post : Int32 → Prop} (h : post (K (n * 80 + r))) : wpY_knowsIt post ((nI m), D, Pb, V, M, K, B, C, S) (nI n) (nI r) := by
  refine ⟨ds_vy hn hr, ?_⟩
  rw [ds_cy hn hr]
  exact ⟨ds_nb (hK _), h⟩
end
end
section
/-! the relation's parts -/
def ds_T (m : Nat) (Pa Pb G : Nat → Int32) (g : Nat → Nat) : Prop :=
  m ≤ 80 ∧ ∀ r, r < m → 1 ≤ g r ∧ g r ≤ r + 1 ∧ G r = nI (g r) ∧ ((Pa r = -1000000003 ∧ Pb r = -1 ∧ g r = 1) ∨ ∃ q, q < r ∧ Pa r = nI q ∧ Pb r = nI q ∧ g r = g q + 1)
def ds_Z (f : Nat → Int32) : Prop := ∀ j, f j = 0 ∨ f j = 1
def ds_O (m : Nat) (K B : Nat → Int32) : Prop := ∀ s r, s < 3 → m ≤ r → r < 80 → K (s * 80 + r) = 0 ∧ B (s * 80 + r) = 0
def ds_Q (m : Nat) (D K S : Nat → Int32) : Prop := ∀ s d, s < 3 → d < 8 → ¬ S (s * 8 + d) = 0 → ∃ r, r < m ∧ D r = nI d ∧ ¬ K (s * 80 + r) = 0
def ds_R (u : SX) (v : SY) : Prop := ∃ (m : Nat) (D Pa Pb V G M K B C S : Nat → Int32) (g : Nat → Nat),
  u = ((nI m), D, Pa, V, G, M, K, B, S, C) ∧ v = ((nI m), D, Pb, V, M, K, B, C, S) ∧ ds_T m Pa Pb G g ∧ ds_Z M ∧ ds_Z K ∧ ds_Z B ∧ ds_O m K B ∧ ds_Q m D K S
section
variable {m : Nat} {D Pa Pb V G M K B C S : Nat → Int32} {g : Nat → Nat}
theorem ds_pa (T : ds_T m Pa Pb G g) {i r : Nat} (hi : i < m) (hr : r < 80) : Pa i = nI r ↔ Pb i = nI r := by
  rcases (T.2 i hi).2.2.2 with ⟨h1, h2, _⟩ | ⟨q, hq, h1, h2, _⟩
  · rw [h1, h2]
    exact ⟨fun e => absurd e.symm (ds_nn hr), fun e => absurd e.symm (ds_n1 hr)⟩
  · rw [h1, h2]
theorem ds_pb (T : ds_T m Pa Pb G g) {i r : Nat} (hi : i < m) (h : i ≤ r) (hr : r < 80) : ¬ Pb i = nI r := by
  have := T.1
  rcases (T.2 i hi).2.2.2 with ⟨h1, h2, _⟩ | ⟨q, hq, h1, h2, _⟩
  · rw [h2]
    exact fun e => absurd e.symm (ds_n1 hr)
  · rw [h2]
    intro e
    have := ds_nI (by omega) hr e
    omega
theorem ds_pe (T : ds_T m Pa Pb G g) {a b : Nat} (ha : a < m) (hb : b < m) : Pa a = Pa b ↔ Pb a = Pb b := by
  have hm := T.1
  rcases (T.2 a ha).2.2.2 with ⟨h1, h2, _⟩ | ⟨q, hq, h1, h2, _⟩
  · rcases (T.2 b hb).2.2.2 with ⟨k1, k2, _⟩ | ⟨p, hp, k1, k2, _⟩
    · rw [h1, h2, k1, k2]
      exact ⟨fun _ => rfl, fun _ => rfl⟩
    · rw [h1, h2, k1, k2]
      exact ⟨fun e => absurd e.symm (ds_nn (by omega)), fun e => absurd e.symm (ds_n1 (by omega))⟩
  · rcases (T.2 b hb).2.2.2 with ⟨k1, k2, _⟩ | ⟨p, hp, k1, k2, _⟩
    · rw [h1, h2, k1, k2]
      exact ⟨fun e => absurd e (ds_nn (by omega)), fun e => absurd e (ds_n1 (by omega))⟩
    · rw [h1, h2, k1, k2]
/-! isLeaf -/
theorem ds_leL (T : ds_T m Pa Pb G g) (hK : ds_Z K) {n r : Nat} (hn : n < 3) (hr : r < 80) : ∀ d i : Nat, i + d = m → ∃ a : Int32, (a = 0 ∨ a = 1) ∧
    (∀ post : Int32 → Prop, post a → wX_isLeaf_20 post (nI n) (nI r) (nI m) D Pa V G M K B S C (d + 1) (nI i)) ∧
    (∀ post : Int32 → Prop, post a → wY_isLeaf_24 post (nI n) (nI r) (nI m) D Pb V M K B C S (d + 1) (nI i)) := by
  have hm := T.1
  intro d
  induction d with
  | zero =>
    intro i hi
    have h : nI m ≤ nI i := nI_le (by omega) (by omega)
    exact ⟨1, .inr rfl, fun _ hp => br_t h hp, fun _ hp => br_t h hp⟩
  | succ d ih =>
    intro i hi
    have h : ¬ nI m ≤ nI i := nI_ge (by omega) (by omega)
    have h8 : i < 80 := by omega
    obtain ⟨a, ha, hX, hY⟩ := ih (i + 1) (by omega)
    by_cases p : Pb i = nI r
    · have p' := (ds_pa T (by omega) hr).mpr p
      by_cases z : K (n * 80 + i) = 0
      · exact ⟨a, ha,
          fun post hp => br_f h ⟨ds_v h8, ds_bt (ds_c h8) p' ⟨ds_vx hn h8, ds_bt (ds_cx hn h8) z (nm_r (nI_1 i) (hX post hp))⟩⟩,
          fun post hp => br_f h ⟨ds_v h8, ds_bt (ds_c h8) p (ds_kn hK hn h8 (br_t z (nm_r (nI_1 i) (hY post hp))))⟩⟩
      · exact ⟨0, .inl rfl,
          fun post hp => br_f h ⟨ds_v h8, ds_bt (ds_c h8) p' ⟨ds_vx hn h8, ds_bf (ds_cx hn h8) z hp⟩⟩,
          fun post hp => br_f h ⟨ds_v h8, ds_bt (ds_c h8) p (ds_kn hK hn h8 (br_f z hp))⟩⟩
    · have p' : ¬ Pa i = nI r := fun e => p ((ds_pa T (by omega) hr).mp e)
      exact ⟨a, ha,
        fun post hp => br_f h ⟨ds_v h8, ds_bf (ds_c h8) p' (nm_r (nI_1 i) (hX post hp))⟩,
        fun post hp => br_f h ⟨ds_v h8, ds_bf (ds_c h8) p (nm_r (nI_1 i) (hY post hp))⟩⟩
theorem ds_leS (T : ds_T m Pa Pb G g) {n r f : Nat} (hr : r < m) {post : Int32 → Prop} (H : wY_isLeaf_24 post (nI n) (nI r) (nI m) D Pb V M K B C S f (nI (r + 1))) : ∀ d i : Nat, i + d = r + 1 → wY_isLeaf_24 post (nI n) (nI r) (nI m) D Pb V M K B C S (f + d) (nI i) := by
  have hm := T.1
  intro d
  induction d with
  | zero =>
    intro i hi
    obtain rfl : i = r + 1 := by omega
    exact H
  | succ d ih =>
    intro i hi
    have h : ¬ nI m ≤ nI i := nI_ge (by omega) (by omega)
    have h8 : i < 80 := by omega
    exact br_f h ⟨ds_v h8, ds_bf (ds_c h8) (ds_pb T (by omega) (by omega) (by omega)) (nm_r (nI_1 i) (ih (i + 1) (by omega)))⟩
/-- X's isLeaf(n, r) against Y's isLeaf(n, d, r) -/
theorem ds_le (T : ds_T m Pa Pb G g) (hK : ds_Z K) {n r : Nat} (hn : n < 3) (hr : r < m) : ∃ a : Int32, (a = 0 ∨ a = 1) ∧
    (∀ post : Int32 → Prop, post a → wpX_isLeaf post ((nI m), D, Pa, V, G, M, K, B, S, C) (nI n) (nI r)) ∧
    (∀ post : Int32 → Prop, post a → wpY_isLeaf post ((nI m), D, Pb, V, M, K, B, C, S) (nI n) (D r) (nI r)) ∧
    (∀ (d : Int32) (post : Int32 → Prop), ¬ D r = d → post 0 → wpY_isLeaf post ((nI m), D, Pb, V, M, K, B, C, S) (nI n) d (nI r)) := by
  have hm := T.1
  have h8 : r < 80 := by omega
  have hno : ∀ (d : Int32) (post : Int32 → Prop), ¬ D r = d → post 0 → wpY_isLeaf post ((nI m), D, Pb, V, M, K, B, C, S) (nI n) d (nI r) :=
    fun d post hd hp => ⟨ds_v h8, ds_bf (ds_c h8) hd hp⟩
  by_cases z : K (n * 80 + r) = 0
  · exact ⟨0, .inl rfl, fun post hp => ⟨ds_vx hn h8, ds_bt (ds_cx hn h8) z hp⟩, fun post hp => ⟨ds_v h8, ds_bt (ds_c h8) rfl (ds_kn hK hn h8 (br_t z hp))⟩, hno⟩
  · obtain ⟨a, ha, hX, hY⟩ := ds_leL (D := D) (V := V) (M := M) (B := B) (C := C) (S := S) T hK hn h8 (m - (r + 1)) (r + 1) (by omega)
    exact ⟨a, ha, fun post hp => ⟨ds_vx hn h8, ds_bf (ds_cx hn h8) z (nm_r (nI_1 r) ⟨_, hX post hp⟩)⟩,
      fun post hp => ⟨ds_v h8, ds_bt (ds_c h8) rfl (ds_kn hK hn h8 (br_f z ⟨_, ds_leS T hr (hY post hp) (r + 1) 0 (by omega)⟩))⟩, hno⟩
/-- X's isLeafOf(n, d, r) against Y's isLeaf(n, d, r) -/
theorem ds_lf (T : ds_T m Pa Pb G g) (hK : ds_Z K) {n r : Nat} (hn : n < 3) (hr : r < m) (d : Int32) : ∃ a : Int32, (a = 0 ∨ a = 1) ∧
    (∀ post : Int32 → Prop, post a → wpX_isLeafOf post ((nI m), D, Pa, V, G, M, K, B, S, C) (nI n) d (nI r)) ∧
    (∀ post : Int32 → Prop, post a → wpY_isLeaf post ((nI m), D, Pb, V, M, K, B, C, S) (nI n) d (nI r)) := by
  have hm := T.1
  have h8 : r < 80 := by omega
  obtain ⟨a, ha, hX, hY, hN⟩ := ds_le (D := D) (V := V) (M := M) (B := B) (C := C) (S := S) T hK hn hr
  by_cases z : D r = d
  · subst z
    refine ⟨a, ha, fun post hp => ⟨ds_v h8, ds_bt (ds_c h8) rfl (hX _ ?_)⟩, hY⟩
    rcases ha with rfl | rfl
    · exact br_t rfl hp
    · exact br_f ds_10 hp
  · exact ⟨0, .inl rfl, fun post hp => ⟨ds_v h8, ds_bf (ds_c h8) z hp⟩, fun post hp => hN d post z hp⟩
end
end
section
section
variable {m : Nat} {D Pa Pb V G M K B C S : Nat → Int32} {g : Nat → Nat}
/-! Y's generation is g -/
theorem ds_gn (T : ds_T m Pa Pb G g) {post : Int32 → Prop} : ∀ r f c : Nat, r < m → r < f → post (nI (c + g r)) → wY_generation_4 post (nI m) D Pb V M K B C S (f + 1) (nI c) (nI r) := by
  have hm := T.1
  intro r
  induction r using Nat.strongRecOn with
  | ind r ih =>
    intro f c hr hf hp
    have h8 : r < 80 := by omega
    obtain ⟨f, rfl⟩ : ∃ e, f = e + 1 := ⟨f - 1, by omega⟩
    rcases (T.2 r hr).2.2.2 with ⟨_, h2, h3⟩ | ⟨q, hq, _, h2, h3⟩
    · refine br_f (nI_pos (by omega)) ⟨ds_v h8, nm_r (e' := -1) (by rw [ds_c h8, h2]) (nm_r (nI_1 c) (br_t ds_neg ?_))⟩
      rw [h3] at hp
      exact hp
    · refine br_f (nI_pos (by omega)) ⟨ds_v h8, nm_r (e' := nI q) (by rw [ds_c h8, h2]) (nm_r (nI_1 c) (ih q hq f (c + 1) (by omega) (by omega) ?_))⟩
      rw [h3, show c + (g q + 1) = c + 1 + g q by omega] at hp
      exact hp
theorem ds_ge (T : ds_T m Pa Pb G g) {post : Int32 → Prop} {r : Nat} (hr : r < m) (hp : post (nI (g r))) : wpY_generation post ((nI m), D, Pb, V, M, K, B, C, S) (nI r) :=
  ⟨r + 1 + 1, ds_gn T r (r + 1) 0 hr (by omega) (by rw [Nat.zero_add]; exact hp)⟩
/-! the comparison at the end -/
theorem ds_cm {a b : Nat} (ha : a < 80) (hb : b < 80) : ∃ c : Int32, (c = 0 ∨ c = 1) ∧ (a = b → c = 0) ∧
    (∀ post : Int32 → Prop, post c → wX_isLater_93 post (nI a) (nI b) (nI m) D Pa V G M K B S C) ∧
    (∀ (post : Int32 → Prop) (f : Nat), Pb a = Pb b → post c → wY_isBehind_42 post (nI m) D Pb V M K B C S (f + 1) (nI a) (nI b)) := by
  have hX : ∀ (post : Int32 → Prop) (c : Int32), ((V a = V b → ((M a = 0 → post 0) ∧ (¬ M a = 0 → (M b = 0 → post 1) ∧ (¬ M b = 0 → post 0)))) ∧ (¬ V a = V b → ((V a ≤ V b → post 0) ∧ (¬ V a ≤ V b → post 1)))) → wX_isLater_93 post (nI a) (nI b) (nI m) D Pa V G M K B S C := by
    intro post c h
    unfold wX_isLater_93
    rw [ds_c ha, ds_c hb]
    exact ⟨ds_v ha, ds_v hb, fun e => ⟨ds_v ha, (h.1 e).1, fun z => ⟨ds_v hb, (h.1 e).2 z⟩⟩, fun e => ⟨ds_v ha, ds_v hb, h.2 e⟩⟩
  have hY : ∀ (post : Int32 → Prop) (f : Nat), Pb a = Pb b → ((V b < V a → post 1) ∧ (¬ V b < V a → ((V a = V b → ((M a = 0 → post 0) ∧ (¬ M a = 0 → (M b = 0 → post 1) ∧ (¬ M b = 0 → post 0)))) ∧ (¬ V a = V b → post 0)))) → wY_isBehind_42 post (nI m) D Pb V M K B C S (f + 1) (nI a) (nI b) := by
    intro post f e h
    rw [wY_isBehind_42]
    dsimp only
    rw [ds_c ha, ds_c hb]
    exact ⟨ds_v ha, ds_v hb, br_t e ⟨ds_v ha, ds_v hb, h.1, fun z => ⟨ds_v ha, ds_v hb, fun y => ⟨ds_v ha, ((h.2 z).1 y).1, fun x => ⟨ds_v hb, ((h.2 z).1 y).2 x⟩⟩, (h.2 z).2⟩⟩⟩
  by_cases e : V a = V b
  · have nl : ¬ V b < V a := by rw [e]; exact fun h => Int32.lt_irrefl h
    by_cases z : M a = 0
    · exact ⟨0, .inl rfl, fun _ => rfl, fun post hp => hX post 0 (br_t e (br_t z hp)), fun post f he hp => hY post f he (br_f nl (br_t e (br_t z hp)))⟩
    · by_cases y : M b = 0
      · exact ⟨1, .inr rfl, fun eb => absurd (eb ▸ y) z, fun post hp => hX post 0 (br_t e (br_f z (br_t y hp))), fun post f he hp => hY post f he (br_f nl (br_t e (br_f z (br_t y hp))))⟩
      · exact ⟨0, .inl rfl, fun _ => rfl, fun post hp => hX post 0 (br_t e (br_f z (br_f y hp))), fun post f he hp => hY post f he (br_f nl (br_t e (br_f z (br_f y hp))))⟩
  · by_cases l : V a ≤ V b
    · have nl : ¬ V b < V a := Int32.not_lt.mpr l
      exact ⟨0, .inl rfl, fun _ => rfl, fun post hp => hX post 0 (br_f e (br_t l hp)), fun post f he hp => hY post f he (br_f nl (br_f e hp))⟩
    · have nl : V b < V a := Int32.not_le.mp l
      exact ⟨1, .inr rfl, fun eb => absurd (congrArg V eb) e, fun post hp => hX post 0 (br_f e (br_f l hp)), fun post f he hp => hY post f he (br_t nl hp)⟩
/-! the walk to the last shared ancestor -/
theorem ds_wk (T : ds_T m Pa Pb G g) : ∀ k a b : Nat, a < m → b < m → g a = k → g b = k → ∃ c : Int32, (c = 0 ∨ c = 1) ∧ (a = b → c = 0) ∧
    (∀ post : Int32 → Prop, post c → wX_isLater_49 post (nI m) D Pa V G M K B S C (k + 1) (nI a) (nI b) (nI k)) ∧
    (∀ post : Int32 → Prop, post c → wY_isBehind_42 post (nI m) D Pb V M K B C S (k + 1) (nI a) (nI b)) := by
  have hm := T.1
  intro k
  induction k with
  | zero =>
    intro a b ha hb ga gb
    have := (T.2 a ha).1
    omega
  | succ k ih =>
    intro a b ha hb ga gb
    have a8 : a < 80 := by omega
    have b8 : b < 80 := by omega
    have hk : k + 1 ≤ 80 := by have := (T.2 a ha).2.1; omega
    obtain ⟨c, hc, hc0, hX, hY⟩ := ds_cm (D := D) (Pa := Pa) (Pb := Pb) (V := V) (G := G) (M := M) (K := K) (B := B) (C := C) (S := S) (m := m) a8 b8
    by_cases e : Pb a = Pb b
    · have e' := (ds_pe T ha hb).mpr e
      refine ⟨c, hc, hc0, fun post hp => br_c (fun _ => hX post hp) (fun _ => ⟨ds_v a8, ds_v b8, ?_⟩), fun post hp => hY post _ e hp⟩
      rw [ds_c a8, ds_c b8]
      exact br_t e' (hX post hp)
    · have e' : ¬ Pa a = Pa b := fun z => e ((ds_pe T ha hb).mp z)
      have ne : a ≠ b := fun z => e (congrArg Pb z)
      rcases (T.2 a ha).2.2.2 with ⟨_, h2, h3⟩ | ⟨q, hq, h1, h2, h3⟩
      · rcases (T.2 b hb).2.2.2 with ⟨_, k2, _⟩ | ⟨p, hp, _, k2, k3⟩
        · exact absurd (h2.trans k2.symm) e
        · have := (T.2 p (by omega)).1
          omega
      · rcases (T.2 b hb).2.2.2 with ⟨_, k2, k3⟩ | ⟨p, hp, k1, k2, k3⟩
        · have := (T.2 q (by omega)).1
          omega
        · have gq : g q = k := by omega
          have gp : g p = k := by omega
          have k1' : 1 ≤ k := by have := (T.2 q (by omega)).1; omega
          obtain ⟨c, hc, _, hX, hY⟩ := ih q p (by omega) (by omega) gq gp
          refine ⟨c, hc, fun z => absurd z ne, fun post hp => ?_, fun post hp => ?_⟩
          · rw [wX_isLater_49]
            refine br_f (nI_ge (a := 1) (by omega) (by omega)) ⟨ds_v a8, ds_v b8, ?_⟩
            rw [ds_c a8, ds_c b8, h1, k1]
            rw [h1, k1] at e'
            exact br_f e' ⟨ds_v a8, nm_e ⟨ds_v b8, nm_e (nm_r (ds_m1 k) (hX post hp))⟩⟩
          · rw [wY_isBehind_42]
            refine ⟨ds_v a8, ds_v b8, ?_⟩
            rw [ds_c a8, ds_c b8, h2, k2]
            rw [h2, k2] at e
            exact br_f e ⟨ds_v a8, nm_e ⟨ds_v b8, nm_e (hY post hp)⟩⟩
/-- X's isLater against Y's isBehind -/
theorem ds_la (T : ds_T m Pa Pb G g) {a b : Nat} (ha : a < m) (hb : b < m) : ∃ c : Int32, (c = 0 ∨ c = 1) ∧
    (∀ post : Int32 → Prop, post c → wpX_isLater post ((nI m), D, Pa, V, G, M, K, B, S, C) (nI a) (nI b)) ∧
    (∀ post : Int32 → Prop, post c → wpY_isBehind post ((nI m), D, Pb, V, M, K, B, C, S) (nI a) (nI b)) := by
  have hm := T.1
  have a8 : a < 80 := by omega
  have b8 : b < 80 := by omega
  obtain ⟨_, ga2, ga, _⟩ := T.2 a ha
  obtain ⟨_, gb2, gb, _⟩ := T.2 b hb
  by_cases e : g a = g b
  · obtain ⟨c, hc, hc0, hX, hY⟩ := ds_wk (D := D) (V := V) (M := M) (K := K) (B := B) (C := C) (S := S) T (g a) a b ha hb rfl e.symm
    refine ⟨c, hc, fun post hp => ?_, fun post hp => ?_⟩
    · refine ⟨ds_v a8, ds_v b8, ?_⟩
      rw [ds_c a8, ds_c b8, ga, gb]
      exact br_t (by rw [e]) ⟨ds_v a8, nm_e ⟨_, hX post hp⟩⟩
    · unfold wpY_isBehind
      refine ds_ge T ha (ds_ge T hb (br_t (by rw [e]) ?_))
      by_cases h : a = b
      · subst h
        have : c = 0 := hc0 rfl
        subst this
        exact br_t rfl (br_t (Int32.le_refl _) hp)
      · exact br_f (fun z => h (ds_nI a8 b8 z)) ⟨_, hY post hp⟩
  · have ne : ¬ nI (g a) = nI (g b) := fun z => e ((nI_eq (by omega) (by omega)).mp z)
    have hX : ∀ (post : Int32 → Prop), ((nI (g a) ≤ nI (g b) → post 0) ∧ (¬ nI (g a) ≤ nI (g b) → post 1)) → wpX_isLater post ((nI m), D, Pa, V, G, M, K, B, S, C) (nI a) (nI b) := by
      intro post h
      refine ⟨ds_v a8, ds_v b8, ?_⟩
      rw [ds_c a8, ds_c b8, ga, gb]
      exact br_f ne ⟨ds_v a8, ds_v b8, h⟩
    have hY : ∀ (post : Int32 → Prop), ((nI (g a) ≤ nI (g b) → post 0) ∧ (¬ nI (g a) ≤ nI (g b) → post 1)) → wpY_isBehind post ((nI m), D, Pb, V, M, K, B, C, S) (nI a) (nI b) := by
      intro post h
      unfold wpY_isBehind
      exact ds_ge T ha (ds_ge T hb (br_f ne h))
    by_cases l : nI (g a) ≤ nI (g b)
    · exact ⟨0, .inl rfl, fun post hp => hX post (br_t l hp), fun post hp => hY post (br_t l hp)⟩
    · exact ⟨1, .inr rfl, fun post hp => hX post (br_f l hp), fun post hp => hY post (br_f l hp)⟩
end
end
section
section
variable {m : Nat} {D Pa Pb V G M K B C S : Nat → Int32} {g : Nat → Nat}
/-- no revision, or one that was made -/
def ds_W (m : Nat) (w : Int32) : Prop := w = -1000000003 ∨ ∃ j, j < m ∧ w = nI j
/-! winnerOf against findWinner -/
theorem ds_wiL (T : ds_T m Pa Pb G g) (hM : ds_Z M) (hK : ds_Z K) {n : Nat} (hn : n < 3) (q : Int32) : ∀ d i : Nat, i + d = m → ∀ w : Int32, ds_W m w → ∃ a : Int32, ds_W m a ∧
    (∀ post : Int32 → Prop, post a → wX_winnerOf_6 post (nI n) q (nI m) D Pa V G M K B S C (d + 1) w (nI i)) ∧
    (∀ post : Int32 → Prop, post a → wY_findWinner_6 post (nI n) q (nI m) D Pb V M K B C S (d + 1) w (nI i)) := by
  have hm := T.1
  intro d
  induction d with
  | zero =>
    intro i hi w hw
    have h : nI m ≤ nI i := nI_le (by omega) (by omega)
    exact ⟨w, hw, fun _ hp => br_t h hp, fun _ hp => br_t h hp⟩
  | succ d ih =>
    intro i hi w hw
    have h : ¬ nI m ≤ nI i := nI_ge (by omega) (by omega)
    have i8 : i < 80 := by omega
    obtain ⟨l, hl, lX, lY⟩ := ds_lf (D := D) (V := V) (M := M) (B := B) (C := C) (S := S) T hK hn (show i < m by omega) q
    obtain ⟨a, ha, aX, aY⟩ := ih (i + 1) (by omega) w hw
    rcases hl with rfl | rfl
    · exact ⟨a, ha, fun post hp => br_f h (lX _ (br_t rfl (nm_r (nI_1 i) (aX post hp)))), fun post hp => br_f h (lY _ (br_t rfl (nm_r (nI_1 i) (aY post hp))))⟩
    · obtain ⟨b, hb, bX, bY⟩ := ih (i + 1) (by omega) (nI i) (.inr ⟨i, by omega, rfl⟩)
      rcases hw with rfl | ⟨j, hj, rfl⟩
      · exact ⟨b, hb, fun post hp => br_f h (lX _ (br_f ds_10 (br_t rfl (nm_r (nI_1 i) (bX post hp))))), fun post hp => br_f h (lY _ (br_f ds_10 (br_t rfl (br_f ds_10 (nm_r (nI_1 i) (bY post hp))))))⟩
      · have j8 : j < 80 := by omega
        obtain ⟨c, hc, cX, cY⟩ := ds_la (D := D) (V := V) (M := M) (K := K) (B := B) (C := C) (S := S) T (show i < m by omega) hj
        by_cases e : M i = M j
        · rcases hc with rfl | rfl
          · refine ⟨a, ha, fun post hp => br_f h (lX _ (br_f ds_10 (br_f (ds_nn j8) ⟨ds_v i8, ds_v j8, ?_⟩))), fun post hp => br_f h (lY _ (br_f ds_10 (br_f (ds_nn j8) ⟨ds_v i8, ds_v j8, ?_⟩)))⟩
            · rw [ds_c i8, ds_c j8]
              exact br_t e (cX _ ⟨ds_nb (.inl rfl), br_t rfl (nm_r (nI_1 i) (aX post hp))⟩)
            · rw [ds_c i8, ds_c j8]
              exact br_t e (cY _ (br_t rfl (br_t rfl (nm_r (nI_1 i) (aY post hp)))))
          · refine ⟨b, hb, fun post hp => br_f h (lX _ (br_f ds_10 (br_f (ds_nn j8) ⟨ds_v i8, ds_v j8, ?_⟩))), fun post hp => br_f h (lY _ (br_f ds_10 (br_f (ds_nn j8) ⟨ds_v i8, ds_v j8, ?_⟩)))⟩
            · rw [ds_c i8, ds_c j8]
              exact br_t e (cX _ ⟨ds_nb (.inr rfl), br_f ds_10 (nm_r (nI_1 i) (bX post hp))⟩)
            · rw [ds_c i8, ds_c j8]
              exact br_t e (cY _ (br_f ds_10 (br_f ds_10 (nm_r (nI_1 i) (bY post hp)))))
        · by_cases z : M j = 0
          · refine ⟨a, ha, fun post hp => br_f h (lX _ (br_f ds_10 (br_f (ds_nn j8) ⟨ds_v i8, ds_v j8, ?_⟩))), fun post hp => br_f h (lY _ (br_f ds_10 (br_f (ds_nn j8) ⟨ds_v i8, ds_v j8, ?_⟩)))⟩
            · rw [ds_c i8, ds_c j8]
              exact br_f e ⟨ds_v j8, ds_nb (hM j), br_t z (nm_r (nI_1 i) (aX post hp))⟩
            · rw [ds_c i8, ds_c j8]
              exact br_f e ⟨ds_v j8, br_t z (br_t rfl (nm_r (nI_1 i) (aY post hp)))⟩
          · refine ⟨b, hb, fun post hp => br_f h (lX _ (br_f ds_10 (br_f (ds_nn j8) ⟨ds_v i8, ds_v j8, ?_⟩))), fun post hp => br_f h (lY _ (br_f ds_10 (br_f (ds_nn j8) ⟨ds_v i8, ds_v j8, ?_⟩)))⟩
            · rw [ds_c i8, ds_c j8]
              exact br_f e ⟨ds_v j8, ds_nb (hM j), br_f z (nm_r (nI_1 i) (bX post hp))⟩
            · rw [ds_c i8, ds_c j8]
              exact br_f e ⟨ds_v j8, br_f z (br_f ds_10 (nm_r (nI_1 i) (bY post hp)))⟩
theorem ds_wi (T : ds_T m Pa Pb G g) (hM : ds_Z M) (hK : ds_Z K) {n : Nat} (hn : n < 3) (q : Int32) : ∃ a : Int32, ds_W m a ∧
    (∀ post : Int32 → Prop, post a → wpX_winnerOf post ((nI m), D, Pa, V, G, M, K, B, S, C) (nI n) q) ∧
    (∀ post : Int32 → Prop, post a → wpY_findWinner post ((nI m), D, Pb, V, M, K, B, C, S) (nI n) q) := by
  obtain ⟨a, ha, aX, aY⟩ := ds_wiL (D := D) (V := V) (B := B) (C := C) (S := S) T hM hK hn q m 0 (by omega) (-1000000003) (.inl rfl)
  exact ⟨a, ha, fun post hp => ⟨_, aX post hp⟩, fun post hp => ⟨_, aY post hp⟩⟩
/-! laterLeaves against the inner loop of findLeaf -/
theorem ds_llL (T : ds_T m Pa Pb G g) (hK : ds_Z K) {n r : Nat} (hn : n < 3) (hr : r < m) (q k : Int32) : ∀ d i : Nat, i + d = m → ∀ c : Int32, ∃ a : Int32,
    (∀ post : Int32 → Prop, post a → wX_laterLeaves_6 post (nI n) q (nI r) (nI m) D Pa V G M K B S C (d + 1) c (nI i)) ∧
    (∀ post J : Int32 → Prop, ((a = k → post (nI r)) ∧ (¬ a = k → J (nI (r + 1)))) → wY_findLeaf_29 post J (nI n) q k (nI r) (nI m) D Pb V M K B C S (d + 1) c (nI i)) := by
  have hm := T.1
  intro d
  induction d with
  | zero =>
    intro i hi c
    have h : nI m ≤ nI i := nI_le (by omega) (by omega)
    exact ⟨c, fun _ hp => br_t h hp, fun post J hp => br_t h ⟨hp.1, fun z => nm_r (nI_1 r) (hp.2 z)⟩⟩
  | succ d ih =>
    intro i hi c
    have h : ¬ nI m ≤ nI i := nI_ge (by omega) (by omega)
    obtain ⟨l, hl, lX, lY⟩ := ds_lf (D := D) (V := V) (M := M) (B := B) (C := C) (S := S) T hK hn (show i < m by omega) q
    obtain ⟨a, aX, aY⟩ := ih (i + 1) (by omega) c
    rcases hl with rfl | rfl
    · exact ⟨a, fun post hp => br_f h (lX _ (br_t rfl (nm_r (nI_1 i) (aX post hp)))), fun post J hp => br_f h (lY _ (br_t rfl (nm_r (nI_1 i) (aY post J hp))))⟩
    · obtain ⟨e, he, eX, eY⟩ := ds_la (D := D) (V := V) (M := M) (K := K) (B := B) (C := C) (S := S) T (show i < m by omega) hr
      rcases he with rfl | rfl
      · exact ⟨a, fun post hp => br_f h (lX _ (br_f ds_10 (eX _ (br_t rfl (nm_r (nI_1 i) (aX post hp)))))), fun post J hp => br_f h (lY _ (br_f ds_10 (eY _ (br_t rfl (nm_r (nI_1 i) (aY post J hp))))))⟩
      · obtain ⟨b, bX, bY⟩ := ih (i + 1) (by omega) (c + 1)
        exact ⟨b, fun post hp => br_f h (lX _ (br_f ds_10 (eX _ (br_f ds_10 (nm_e (nm_r (nI_1 i) (bX post hp))))))), fun post J hp => br_f h (lY _ (br_f ds_10 (eY _ (br_f ds_10 (nm_e (nm_r (nI_1 i) (bY post J hp)))))))⟩
/-! leafAt against findLeaf -/
theorem ds_laL (T : ds_T m Pa Pb G g) (hK : ds_Z K) {n : Nat} (hn : n < 3) (q k : Int32) : ∀ d i : Nat, i + d = m → ∃ a : Int32, ds_W m a ∧
    (∀ post : Int32 → Prop, post a → wX_leafAt_3 post (nI n) q k (nI m) D Pa V G M K B S C (d + 1) (nI i)) ∧
    (∀ post : Int32 → Prop, post a → wY_findLeaf_3 post (nI n) q k (nI m) D Pb V M K B C S (d + 1) (nI i)) := by
  have hm := T.1
  intro d
  induction d with
  | zero =>
    intro i hi
    have h : nI m ≤ nI i := nI_le (by omega) (by omega)
    exact ⟨_, .inl rfl, fun _ hp => br_t h hp, fun _ hp => br_t h hp⟩
  | succ d ih =>
    intro i hi
    have h : ¬ nI m ≤ nI i := nI_ge (by omega) (by omega)
    have hi' : i < m := by omega
    obtain ⟨l, hl, lX, lY⟩ := ds_lf (D := D) (V := V) (M := M) (B := B) (C := C) (S := S) T hK hn hi' q
    obtain ⟨a, ha, aX, aY⟩ := ih (i + 1) (by omega)
    rcases hl with rfl | rfl
    · exact ⟨a, ha, fun post hp => br_f h (lX _ (br_t rfl (nm_r (nI_1 i) (aX post hp)))), fun post hp => br_f h (lY _ (br_t rfl (nm_r (nI_1 i) (aY post hp))))⟩
    · obtain ⟨e, eX, eY⟩ := ds_llL (D := D) (V := V) (M := M) (B := B) (C := C) (S := S) T hK hn hi' q k m 0 (by omega) 0
      by_cases z : e = k
      · exact ⟨nI i, .inr ⟨i, hi', rfl⟩, fun post hp => br_f h (lX _ (br_f ds_10 ⟨_, eX _ (br_t z hp)⟩)), fun post hp => br_f h (lY _ (br_f ds_10 ⟨_, eY _ _ (br_t z hp)⟩))⟩
      · exact ⟨a, ha, fun post hp => br_f h (lX _ (br_f ds_10 ⟨_, eX _ (br_f z (nm_r (nI_1 i) (aX post hp)))⟩)), fun post hp => br_f h (lY _ (br_f ds_10 ⟨_, eY _ _ (br_f z (aY post hp))⟩))⟩
theorem ds_at (T : ds_T m Pa Pb G g) (hK : ds_Z K) {n : Nat} (hn : n < 3) (q k : Int32) : ∃ a : Int32, ds_W m a ∧
    (∀ post : Int32 → Prop, post a → wpX_leafAt post ((nI m), D, Pa, V, G, M, K, B, S, C) (nI n) q k) ∧
    (∀ post : Int32 → Prop, post a → wpY_findLeaf post ((nI m), D, Pb, V, M, K, B, C, S) (nI n) q k) := by
  obtain ⟨a, ha, aX, aY⟩ := ds_laL (D := D) (V := V) (M := M) (B := B) (C := C) (S := S) T hK hn q k m 0 (by omega)
  exact ⟨a, ha, fun post hp => ⟨_, aX post hp⟩, fun post hp => ⟨_, aY post hp⟩⟩
/-! the number of leaves -/
theorem ds_lnL (T : ds_T m Pa Pb G g) (hK : ds_Z K) {n : Nat} (hn : n < 3) (q : Int32) : ∀ d i : Nat, i + d = m → ∀ c : Int32, ∃ a : Int32,
    (∀ post : Int32 → Prop, post a → wX_leaves_22 post (nI n) q (nI m) D Pa V G M K B S C (d + 1) c (nI i)) ∧
    (∀ post : Int32 → Prop, post a → wY_countLeaves_6 post (nI n) q 0 (nI m) D Pb V M K B C S (d + 1) c (nI i)) := by
  have hm := T.1
  intro d
  induction d with
  | zero =>
    intro i hi c
    have h : nI m ≤ nI i := nI_le (by omega) (by omega)
    exact ⟨c, fun _ hp => br_t h hp, fun _ hp => br_t h hp⟩
  | succ d ih =>
    intro i hi c
    have h : ¬ nI m ≤ nI i := nI_ge (by omega) (by omega)
    obtain ⟨l, hl, lX, lY⟩ := ds_lf (D := D) (V := V) (M := M) (B := B) (C := C) (S := S) T hK hn (show i < m by omega) q
    rcases hl with rfl | rfl
    · obtain ⟨a, aX, aY⟩ := ih (i + 1) (by omega) c
      exact ⟨a, fun post hp => br_f h (lX _ (br_t rfl (nm_r (nI_1 i) (aX post hp)))), fun post hp => br_f h (lY _ (br_t rfl (nm_r (nI_1 i) (aY post hp))))⟩
    · obtain ⟨a, aX, aY⟩ := ih (i + 1) (by omega) (c + 1)
      exact ⟨a, fun post hp => br_f h (lX _ (br_f ds_10 (nm_e (nm_r (nI_1 i) (aX post hp))))), fun post hp => br_f h (lY _ (br_f ds_10 (br_t rfl (nm_e (nm_r (nI_1 i) (aY post hp))))))⟩
/-! the number of living leaves: isInConflict against countLeaves(.., true) -/
theorem ds_icL (T : ds_T m Pa Pb G g) (hK : ds_Z K) {n : Nat} (hn : n < 3) (q : Int32) : ∀ d i : Nat, i + d = m → ∀ c : Int32, ∃ a : Int32,
    (∀ post : Int32 → Prop, ((a < 2 → post 0) ∧ (¬ a < 2 → post 1)) → wX_isInConflict_5 post (nI n) q (nI m) D Pa V G M K B S C (d + 1) c (nI i)) ∧
    (∀ post : Int32 → Prop, post a → wY_countLeaves_6 post (nI n) q 1 (nI m) D Pb V M K B C S (d + 1) c (nI i)) := by
  have hm := T.1
  intro d
  induction d with
  | zero =>
    intro i hi c
    have h : nI m ≤ nI i := nI_le (by omega) (by omega)
    exact ⟨c, fun _ hp => br_t h hp, fun _ hp => br_t h hp⟩
  | succ d ih =>
    intro i hi c
    have h : ¬ nI m ≤ nI i := nI_ge (by omega) (by omega)
    have i8 : i < 80 := by omega
    obtain ⟨l, hl, lX, lY⟩ := ds_lf (D := D) (V := V) (M := M) (B := B) (C := C) (S := S) T hK hn (show i < m by omega) q
    obtain ⟨a, aX, aY⟩ := ih (i + 1) (by omega) c
    by_cases z : M i = 0
    · rcases hl with rfl | rfl
      · exact ⟨a, fun post hp => br_f h ⟨ds_v i8, ds_bt (ds_c i8) z (lX _ (br_t rfl (nm_r (nI_1 i) (aX post hp))))⟩, fun post hp => br_f h (lY _ (br_t rfl (nm_r (nI_1 i) (aY post hp))))⟩
      · obtain ⟨a, aX, aY⟩ := ih (i + 1) (by omega) (c + 1)
        exact ⟨a, fun post hp => br_f h ⟨ds_v i8, ds_bt (ds_c i8) z (lX _ (br_f ds_10 (nm_e (nm_r (nI_1 i) (aX post hp)))))⟩, fun post hp => br_f h (lY _ (br_f ds_10 (br_f ds_10 ⟨ds_v i8, ds_bt (ds_c i8) z (nm_e (nm_r (nI_1 i) (aY post hp)))⟩)))⟩
    · rcases hl with rfl | rfl
      · exact ⟨a, fun post hp => br_f h ⟨ds_v i8, ds_bf (ds_c i8) z (nm_r (nI_1 i) (aX post hp))⟩, fun post hp => br_f h (lY _ (br_t rfl (nm_r (nI_1 i) (aY post hp))))⟩
      · exact ⟨a, fun post hp => br_f h ⟨ds_v i8, ds_bf (ds_c i8) z (nm_r (nI_1 i) (aX post hp))⟩, fun post hp => br_f h (lY _ (br_f ds_10 (br_f ds_10 ⟨ds_v i8, ds_bf (ds_c i8) z (nm_r (nI_1 i) (aY post hp))⟩)))⟩
theorem ds_21 (a : Int32) : a < 2 ↔ a ≤ 1 := by
  rw [Int32.lt_iff_toInt_lt, Int32.le_iff_toInt_le, show (2 : Int32).toInt = 2 from by decide, show (1 : Int32).toInt = 1 from by decide]
  omega
theorem ds_cfL (T : ds_T m Pa Pb G g) (hK : ds_Z K) {n : Nat} (hn : n < 3) : ∀ d i : Nat, i + d = 8 → ∀ c : Int32, ∃ a : Int32,
    (∀ post : Int32 → Prop, post a → wX_conflicts_14 post (nI n) (nI m) D Pa V G M K B S C (d + 1) c (nI i)) ∧
    (∀ post : Int32 → Prop, post a → wY_conflicts_15 post (nI n) (nI m) D Pb V M K B C S (d + 1) c (nI i)) := by
  intro d
  induction d with
  | zero =>
    intro i hi c
    have h : 8 ≤ nI i := nI_le (a := 8) (by omega) (by omega)
    exact ⟨c, fun _ hp => br_t h hp, fun _ hp => br_t h hp⟩
  | succ d ih =>
    intro i hi c
    have h : ¬ 8 ≤ nI i := nI_ge (b := 8) (by omega) (by decide)
    obtain ⟨l, lX, lY⟩ := ds_icL (D := D) (V := V) (M := M) (B := B) (C := C) (S := S) T hK hn (nI i) m 0 (by omega) 0
    by_cases z : l ≤ 1
    · have z' := (ds_21 l).mpr z
      obtain ⟨a, aX, aY⟩ := ih (i + 1) (by omega) c
      exact ⟨a, fun post hp => br_f h ⟨_, lX _ (br_t z' (br_t rfl (nm_r (nI_1 i) (aX post hp))))⟩, fun post hp => br_f h ⟨_, lY _ (br_t z (nm_r (nI_1 i) (aY post hp)))⟩⟩
    · have z' : ¬ l < 2 := fun y => z ((ds_21 l).mp y)
      obtain ⟨a, aX, aY⟩ := ih (i + 1) (by omega) (c + 1)
      exact ⟨a, fun post hp => br_f h ⟨_, lX _ (br_f z' (br_f ds_10 (nm_e (nm_r (nI_1 i) (aX post hp)))))⟩, fun post hp => br_f h ⟨_, lY _ (br_f z (nm_e (nm_r (nI_1 i) (aY post hp))))⟩⟩
end
end
section
section
variable {m : Nat} {D Pa Pb V G M K B C S : Nat → Int32} {g : Nat → Nat}
/-- winnerInView against exists and findWinner -/
theorem ds_vi (T : ds_T m Pa Pb G g) (hM : ds_Z M) (hK : ds_Z K) {n : Nat} (hn : n < 3) (q : Int32) :
    ((∀ post : Int32 → Prop, post (-1000000003) → wpX_winnerInView post ((nI m), D, Pa, V, G, M, K, B, S, C) (nI n) q) ∧ (∀ post : Int32 → Prop, post 0 → wpY_exists post ((nI m), D, Pb, V, M, K, B, C, S) (nI n) q)) ∨
    (∃ j : Nat, j < 80 ∧ (∀ post : Int32 → Prop, post (nI j) → wpX_winnerInView post ((nI m), D, Pa, V, G, M, K, B, S, C) (nI n) q) ∧ (∀ post : Int32 → Prop, post 1 → wpY_exists post ((nI m), D, Pb, V, M, K, B, C, S) (nI n) q) ∧
      (∀ post : Int32 → Prop, post (nI j) → wpY_findWinner post ((nI m), D, Pb, V, M, K, B, C, S) (nI n) q)) := by
  have hm := T.1
  obtain ⟨w, hw, wX, wY⟩ := ds_wi (D := D) (V := V) (B := B) (C := C) (S := S) T hM hK hn q
  rcases hw with rfl | ⟨j, hj, rfl⟩
  · refine .inl ⟨fun post hp => ?_, fun post hp => ?_⟩
    · unfold wpX_winnerInView
      exact wX _ (br_t rfl hp)
    · unfold wpY_exists
      exact wY _ (br_t rfl hp)
  · have j8 : j < 80 := by omega
    by_cases z : M j = 0
    · refine .inr ⟨j, j8, fun post hp => ?_, fun post hp => ?_, wY⟩
      · unfold wpX_winnerInView
        exact wX _ (br_f (ds_nn j8) ⟨ds_v j8, ds_bt (ds_c j8) z hp⟩)
      · unfold wpY_exists
        exact wY _ (br_f (ds_nn j8) ⟨ds_v j8, ds_bt (ds_c j8) z hp⟩)
    · refine .inl ⟨fun post hp => ?_, fun post hp => ?_⟩
      · unfold wpX_winnerInView
        exact wX _ (br_f (ds_nn j8) ⟨ds_v j8, ds_bf (ds_c j8) z hp⟩)
      · unfold wpY_exists
        exact wY _ (br_f (ds_nn j8) ⟨ds_v j8, ds_bf (ds_c j8) z hp⟩)
/-! size -/
theorem ds_siL (T : ds_T m Pa Pb G g) (hM : ds_Z M) (hK : ds_Z K) {n : Nat} (hn : n < 3) : ∀ d i : Nat, i + d = 8 → ∀ c : Int32, ∃ a : Int32,
    (∀ post : Int32 → Prop, post a → wX_size_14 post (nI n) (nI m) D Pa V G M K B S C (d + 1) c (nI i)) ∧
    (∀ post : Int32 → Prop, post a → wY_size_15 post (nI n) (nI m) D Pb V M K B C S (d + 1) c (nI i)) := by
  intro d
  induction d with
  | zero =>
    intro i hi c
    have h : 8 ≤ nI i := nI_le (a := 8) (by omega) (by omega)
    exact ⟨c, fun _ hp => br_t h hp, fun _ hp => br_t h hp⟩
  | succ d ih =>
    intro i hi c
    have h : ¬ 8 ≤ nI i := nI_ge (b := 8) (by omega) (by decide)
    rcases ds_vi (D := D) (V := V) (B := B) (C := C) (S := S) T hM hK hn (nI i) with ⟨wX, wY⟩ | ⟨j, j8, wX, wY, _⟩
    · obtain ⟨a, aX, aY⟩ := ih (i + 1) (by omega) c
      exact ⟨a, fun post hp => br_f h (wX _ (br_t rfl (nm_r (nI_1 i) (aX post hp)))), fun post hp => br_f h (wY _ (br_t rfl (nm_r (nI_1 i) (aY post hp))))⟩
    · obtain ⟨a, aX, aY⟩ := ih (i + 1) (by omega) (c + 1)
      exact ⟨a, fun post hp => br_f h (wX _ (br_f (ds_nn j8) (nm_e (nm_r (nI_1 i) (aX post hp))))), fun post hp => br_f h (wY _ (br_f ds_10 (nm_e (nm_r (nI_1 i) (aY post hp)))))⟩
/-! below -/
theorem ds_beL (T : ds_T m Pa Pb G g) (hM : ds_Z M) (hK : ds_Z K) {n : Nat} (hn : n < 3) (x : Int32) : ∀ d i : Nat, i + d = 8 → ∀ c : Int32, ∃ a : Int32,
    (∀ post : Int32 → Prop, post a → wX_below_15 post (nI n) x (nI m) D Pa V G M K B S C (d + 1) c (nI i)) ∧
    (∀ post : Int32 → Prop, post a → wY_below_16 post (nI n) x (nI m) D Pb V M K B C S (d + 1) c (nI i)) := by
  intro d
  induction d with
  | zero =>
    intro i hi c
    have h : 8 ≤ nI i := nI_le (a := 8) (by omega) (by omega)
    exact ⟨c, fun _ hp => br_t h hp, fun _ hp => br_t h hp⟩
  | succ d ih =>
    intro i hi c
    have h : ¬ 8 ≤ nI i := nI_ge (b := 8) (by omega) (by decide)
    rcases ds_vi (D := D) (V := V) (B := B) (C := C) (S := S) T hM hK hn (nI i) with ⟨wX, wY⟩ | ⟨j, j8, wX, wY, fY⟩
    · obtain ⟨a, aX, aY⟩ := ih (i + 1) (by omega) c
      exact ⟨a, fun post hp => br_f h (wX _ (br_t rfl (nm_r (nI_1 i) (aX post hp)))), fun post hp => br_f h (wY _ (br_t rfl (nm_r (nI_1 i) (aY post hp))))⟩
    · by_cases z : x ≤ V (nI j).toNatClampNeg
      · obtain ⟨a, aX, aY⟩ := ih (i + 1) (by omega) c
        exact ⟨a, fun post hp => br_f h (wX _ (br_f (ds_nn j8) ⟨ds_v j8, br_t z (nm_r (nI_1 i) (aX post hp))⟩)), fun post hp => br_f h (wY _ (br_f ds_10 (fY _ ⟨ds_v j8, br_t z (nm_r (nI_1 i) (aY post hp))⟩)))⟩
      · obtain ⟨a, aX, aY⟩ := ih (i + 1) (by omega) (c + 1)
        exact ⟨a, fun post hp => br_f h (wX _ (br_f (ds_nn j8) ⟨ds_v j8, br_f z (nm_e (nm_r (nI_1 i) (aX post hp)))⟩)), fun post hp => br_f h (wY _ (br_f ds_10 (fY _ ⟨ds_v j8, br_f z (nm_e (nm_r (nI_1 i) (aY post hp)))⟩)))⟩
/-! total -/
theorem ds_toL (T : ds_T m Pa Pb G g) (hM : ds_Z M) (hK : ds_Z K) {n : Nat} (hn : n < 3) : ∀ d i : Nat, i + d = 8 → ∀ c : Int32, ∃ a : Int32,
    (∀ post : Int32 → Prop, post a → wX_total_14 post (nI n) (nI m) D Pa V G M K B S C (d + 1) c (nI i)) ∧
    (∀ post : Int32 → Prop, post a → wY_total_15 post (nI n) (nI m) D Pb V M K B C S (d + 1) c (nI i)) := by
  intro d
  induction d with
  | zero =>
    intro i hi c
    have h : 8 ≤ nI i := nI_le (a := 8) (by omega) (by omega)
    exact ⟨c, fun _ hp => br_t h hp, fun _ hp => br_t h hp⟩
  | succ d ih =>
    intro i hi c
    have h : ¬ 8 ≤ nI i := nI_ge (b := 8) (by omega) (by decide)
    rcases ds_vi (D := D) (V := V) (B := B) (C := C) (S := S) T hM hK hn (nI i) with ⟨wX, wY⟩ | ⟨j, j8, wX, wY, fY⟩
    · obtain ⟨a, aX, aY⟩ := ih (i + 1) (by omega) c
      exact ⟨a, fun post hp => br_f h (wX _ (br_t rfl (nm_r (nI_1 i) (aX post hp)))), fun post hp => br_f h (wY _ (br_t rfl (nm_r (nI_1 i) (aY post hp))))⟩
    · obtain ⟨a, aX, aY⟩ := ih (i + 1) (by omega) (c + V (nI j).toNatClampNeg)
      exact ⟨a, fun post hp => br_f h (wX _ (br_f (ds_nn j8) ⟨ds_v j8, nm_e (nm_r (nI_1 i) (aX post hp))⟩)), fun post hp => br_f h (wY _ (br_f ds_10 (fY _ ⟨ds_v j8, nm_e (nm_r (nI_1 i) (aY post hp))⟩)))⟩
/-! viewed -/
theorem ds_plL (T : ds_T m Pa Pb G g) (hM : ds_Z M) (hK : ds_Z K) {n : Nat} (hn : n < 3) (k x : Int32) (e : Nat) : ∀ d i : Nat, i + d = 8 → ∀ c : Int32, ∃ a : Int32,
    (∀ post : Int32 → Prop, post a → wX_placeInView_6 post (nI n) (nI e) x (nI m) D Pa V G M K B S C (d + 1) c (nI i)) ∧
    (∀ post J : Int32 → Prop, ((a = k → post (nI e)) ∧ (¬ a = k → J (nI (e + 1)))) → wY_viewed_47 post J (nI n) k (nI e) x (nI m) D Pb V M K B C S (d + 1) c (nI i)) := by
  intro d
  induction d with
  | zero =>
    intro i hi c
    have h : 8 ≤ nI i := nI_le (a := 8) (by omega) (by omega)
    exact ⟨c, fun _ hp => br_t h hp, fun post J hp => br_t h ⟨hp.1, fun z => nm_r (nI_1 e) (hp.2 z)⟩⟩
  | succ d ih =>
    intro i hi c
    have h : ¬ 8 ≤ nI i := nI_ge (b := 8) (by omega) (by decide)
    obtain ⟨a, aX, aY⟩ := ih (i + 1) (by omega) c
    obtain ⟨b, bX, bY⟩ := ih (i + 1) (by omega) (c + 1)
    rcases ds_vi (D := D) (V := V) (B := B) (C := C) (S := S) T hM hK hn (nI i) with ⟨wX, wY⟩ | ⟨j, j8, wX, wY, fY⟩
    · exact ⟨a, fun post hp => br_f h (wX _ (br_t rfl (nm_r (nI_1 i) (aX post hp)))), fun post J hp => br_f h (wY _ (br_t rfl (br_t rfl (nm_r (nI_1 i) (aY post J hp)))))⟩
    · by_cases z : V (nI j).toNatClampNeg < x
      · exact ⟨b, fun post hp => br_f h (wX _ (br_f (ds_nn j8) ⟨ds_v j8, br_t z (nm_e (nm_r (nI_1 i) (bX post hp)))⟩)),
          fun post J hp => br_f h (wY _ (br_f ds_10 (fY _ ⟨ds_v j8, br_t z (br_f ds_10 (nm_e (nm_r (nI_1 i) (bY post J hp))))⟩)))⟩
      · by_cases y : V (nI j).toNatClampNeg = x
        · by_cases l : nI e ≤ nI i
          · exact ⟨a, fun post hp => br_f h (wX _ (br_f (ds_nn j8) ⟨ds_v j8, br_f z ⟨ds_v j8, br_t y (br_t l (nm_r (nI_1 i) (aX post hp)))⟩⟩)),
              fun post J hp => br_f h (wY _ (br_f ds_10 (fY _ ⟨ds_v j8, br_f z (fY _ ⟨ds_v j8, br_t y (br_t l (br_t rfl (nm_r (nI_1 i) (aY post J hp))))⟩)⟩)))⟩
          · exact ⟨b, fun post hp => br_f h (wX _ (br_f (ds_nn j8) ⟨ds_v j8, br_f z ⟨ds_v j8, br_t y (br_f l (nm_e (nm_r (nI_1 i) (bX post hp))))⟩⟩)),
              fun post J hp => br_f h (wY _ (br_f ds_10 (fY _ ⟨ds_v j8, br_f z (fY _ ⟨ds_v j8, br_t y (br_f l (br_f ds_10 (nm_e (nm_r (nI_1 i) (bY post J hp)))))⟩)⟩)))⟩
        · exact ⟨a, fun post hp => br_f h (wX _ (br_f (ds_nn j8) ⟨ds_v j8, br_f z ⟨ds_v j8, br_f y (nm_r (nI_1 i) (aX post hp))⟩⟩)),
            fun post J hp => br_f h (wY _ (br_f ds_10 (fY _ ⟨ds_v j8, br_f z (fY _ ⟨ds_v j8, br_f y (br_t rfl (nm_r (nI_1 i) (aY post J hp)))⟩)⟩)))⟩
theorem ds_vwL (T : ds_T m Pa Pb G g) (hM : ds_Z M) (hK : ds_Z K) {n : Nat} (hn : n < 3) (k : Int32) : ∀ d i : Nat, i + d = 8 → ∃ a : Int32,
    (∀ post : Int32 → Prop, post a → wX_viewed_12 post (nI n) k (nI m) D Pa V G M K B S C (d + 1) (nI i)) ∧
    (∀ post : Int32 → Prop, post a → wY_viewed_13 post (nI n) k (nI m) D Pb V M K B C S (d + 1) (nI i)) := by
  intro d
  induction d with
  | zero =>
    intro i hi
    have h : 8 ≤ nI i := nI_le (a := 8) (by omega) (by omega)
    exact ⟨_, fun _ hp => br_t h hp, fun _ hp => br_t h hp⟩
  | succ d ih =>
    intro i hi
    have h : ¬ 8 ≤ nI i := nI_ge (b := 8) (by omega) (by decide)
    obtain ⟨a, aX, aY⟩ := ih (i + 1) (by omega)
    rcases ds_vi (D := D) (V := V) (B := B) (C := C) (S := S) T hM hK hn (nI i) with ⟨wX, wY⟩ | ⟨j, j8, wX, wY, fY⟩
    · exact ⟨a, fun post hp => br_f h (wX _ (br_t rfl (nm_r (nI_1 i) (aX post hp)))), fun post hp => br_f h (wY _ (br_t rfl (nm_r (nI_1 i) (aY post hp))))⟩
    · obtain ⟨p, pX, pY⟩ := ds_plL (D := D) (B := B) (C := C) (S := S) T hM hK hn k (V (nI j).toNatClampNeg) i 8 0 (by omega) 0
      by_cases z : p = k
      · exact ⟨nI i, fun post hp => br_f h (wX _ (br_f (ds_nn j8) ⟨ds_v j8, ⟨_, pX _ (br_t z hp)⟩⟩)), fun post hp => br_f h (wY _ (br_f ds_10 (fY _ ⟨ds_v j8, nm_e ⟨_, pY _ _ (br_t z hp)⟩⟩)))⟩
      · exact ⟨a, fun post hp => br_f h (wX _ (br_f (ds_nn j8) ⟨ds_v j8, ⟨_, pX _ (br_f z (nm_r (nI_1 i) (aX post hp)))⟩⟩)), fun post hp => br_f h (wY _ (br_f ds_10 (fY _ ⟨ds_v j8, nm_e ⟨_, pY _ _ (br_f z (aY post hp))⟩⟩)))⟩
/-! agree -/
theorem ds_agL (hm : m ≤ 80) (hK : ds_Z K) {n o : Nat} (hn : n < 3) (ho : o < 3) : ∀ d i : Nat, i + d = m → ∃ a : Int32,
    (∀ post : Int32 → Prop, post a → wX_agree_18 post (nI n) (nI o) (nI m) D Pa V G M K B S C (d + 1) (nI i)) ∧
    (∀ post : Int32 → Prop, post a → wY_agree_20 post (nI n) (nI o) (nI m) D Pb V M K B C S (d + 1) (nI i)) := by
  intro d
  induction d with
  | zero =>
    intro i hi
    have h : nI m ≤ nI i := nI_le (by omega) (by omega)
    exact ⟨1, fun _ hp => br_t h hp, fun _ hp => br_t h hp⟩
  | succ d ih =>
    intro i hi
    have h : ¬ nI m ≤ nI i := nI_ge (by omega) (by omega)
    have i8 : i < 80 := by omega
    obtain ⟨a, aX, aY⟩ := ih (i + 1) (by omega)
    by_cases z : K (n * 80 + i) = K (o * 80 + i)
    · refine ⟨a, fun post hp => br_f h ⟨ds_vx hn i8, ds_vx ho i8, ?_⟩, fun post hp => br_f h (ds_kn hK hn i8 (ds_kn hK ho i8 (br_t z (nm_r (nI_1 i) (aY post hp)))))⟩
      rw [ds_cx hn i8, ds_cx ho i8]
      exact br_t z (nm_r (nI_1 i) (aX post hp))
    · refine ⟨0, fun post hp => br_f h ⟨ds_vx hn i8, ds_vx ho i8, ?_⟩, fun post hp => br_f h (ds_kn hK hn i8 (ds_kn hK ho i8 (br_f z hp)))⟩
      rw [ds_cx hn i8, ds_cx ho i8]
      exact br_f z hp
end
end
section
section
variable {m : Nat} {D Pa Pb V G M K B C S : Nat → Int32} {g : Nat → Nat}
theorem ds_zu {f : Nat → Int32} (h : ds_Z f) {x : Int32} (hx : x = 0 ∨ x = 1) (k : Nat) : ds_Z (upd f k x) := by
  intro j
  rw [ds_ud]
  split
  · exact hx
  · exact h j
theorem ds_gu {f : Nat → Int32} {x : Int32} (hx : ¬ x = 0) (k i : Nat) (h : ¬ f i = 0) : ¬ upd f k x i = 0 := by
  rw [ds_ud]
  split
  · exact hx
  · exact h
theorem ds_Og (hO : ds_O m K B) {n j : Nat} (hj : j < m) (hm : m ≤ 80) (x y : Int32) : ds_O m (upd K (n * 80 + j) x) (upd B (n * 80 + j) y) := by
  intro s r hs hr h8
  have h := hO s r hs hr h8
  rw [ds_un (by omega), ds_un (by omega)]
  exact h
theorem ds_Qg {K' : Nat → Int32} (hQ : ds_Q m D K S) (hg : ∀ i, ¬ K i = 0 → ¬ K' i = 0) {n d : Nat} (hd : d < 8) (hw : ∃ r, r < m ∧ D r = nI d ∧ ¬ K' (n * 80 + r) = 0) (x : Int32) : ds_Q m D K' (upd S (n * 8 + d) x) := by
  intro s e hs he h
  by_cases z : s * 8 + e = n * 8 + d
  · obtain rfl : s = n := by omega
    obtain rfl : e = d := by omega
    exact hw
  · rw [ds_un z] at h
    obtain ⟨r, hr, h1, h2⟩ := hQ s e hs he h
    exact ⟨r, hr, h1, hg _ h2⟩
/-! giveStamp against learn -/
theorem ds_gsX {n d : Nat} (hn : n < 3) (hd : d < 8) {post : SX → Prop} (h : post ((nI m), D, Pa, V, G, M, K, B, (upd S (n * 8 + d) (upd C n (C n + 1) n)), (upd C n (C n + 1)))) : wpX_giveStamp post ((nI m), D, Pa, V, G, M, K, B, S, C) (nI n) (nI d) := by
  have e : (nI n).toNatClampNeg = n := ds_c (by omega)
  refine ⟨ds_w hn, ds_w hn, nm_r (e' := upd C n (C n + 1)) (by rw [e]) ⟨ds_w hn, ds_wx hn hd, nm_r (e' := upd S (n * 8 + d) (upd C n (C n + 1) n)) (by rw [e, ds_dx hn hd]) h⟩⟩
theorem ds_gsY {n d : Nat} (hn : n < 3) (hd : d < 8) {post : SY → Prop} (h : post ((nI m), D, Pb, V, M, K, B, (upd C n (C n + 1)), (upd S (n * 8 + d) (upd C n (C n + 1) n)))) : wpY_learn post ((nI m), D, Pb, V, M, K, B, C, S) (nI n) (nI d) := by
  have e : (nI n).toNatClampNeg = n := ds_c (by omega)
  refine ⟨ds_w hn, ds_w hn, nm_r (e' := upd C n (C n + 1)) (by rw [e]) ⟨ds_w hn, ds_wy hn hd, nm_r (e' := upd S (n * 8 + d) (upd C n (C n + 1) n)) (by rw [e, ds_dy hn hd]) h⟩⟩
/-! the end of make: the store comes to know revision j -/
theorem ds_tl (T : ds_T m Pa Pb G g) (hM : ds_Z M) (hK : ds_Z K) (hB : ds_Z B) (hO : ds_O m K B) (hQ : ds_Q m D K S) {n d j : Nat} (hn : n < 3) (hd : d < 8) (hj : j < m) (hD : D j = nI d) : ∃ (u' : SX) (v' : SY), ds_R u' v' ∧
    (∀ post : Int32 → SX → Prop, post (nI j) u' → wX_make_43 post (nI n) (nI d) (nI j) (nI m) D Pa V G M K B S C) ∧
    (∀ post : Int32 → SY → Prop, post (nI j) v' → wY_make_170 post (nI n) (nI d) (nI j) (nI m) D Pb V M K B C S) := by
  have hm := T.1
  have j8 : j < 80 := by omega
  by_cases z : K (n * 80 + j) = 0
  · refine ⟨((nI m), D, Pa, V, G, M, (upd K (n * 80 + j) 1), (upd B (n * 80 + j) 1), (upd S (n * 8 + d) (upd C n (C n + 1) n)), (upd C n (C n + 1))), ((nI m), D, Pb, V, M, (upd K (n * 80 + j) 1), (upd B (n * 80 + j) 1), (upd C n (C n + 1)), (upd S (n * 8 + d) (upd C n (C n + 1) n))), ?_, fun post hp => ?_, fun post hp => ?_⟩
    · exact ⟨_, _, _, _, _, _, _, _, _, _, _, g, rfl, rfl, T, hM, ds_zu hK (.inr rfl) _, ds_zu hB (.inr rfl) _, ds_Og hO hj hm 1 1,
        ds_Qg hQ (fun i h => ds_gu ds_10 _ i h) hd ⟨j, hj, hD, by rw [ds_us]; exact ds_10⟩ _⟩
    · exact ⟨ds_vx hn j8, ds_bt (ds_cx hn j8) z ⟨ds_vx hn j8, nm_r (e' := upd K (n * 80 + j) 1) (by rw [ds_cx hn j8, ds_b1]) ⟨ds_vx hn j8, nm_r (e' := upd B (n * 80 + j) 1) (by rw [ds_cx hn j8, ds_b1]) (ds_gsX hn hd hp)⟩⟩⟩
    · unfold wY_make_170
      exact ds_kn hK hn j8 (br_t z ⟨ds_vy hn j8, nm_r (e' := upd K (n * 80 + j) 1) (by rw [ds_cy hn j8, ds_b1]) ⟨ds_vy hn j8, nm_r (e' := upd B (n * 80 + j) 1) (by rw [ds_cy hn j8, ds_b1]) (ds_gsY hn hd hp)⟩⟩)
  · refine ⟨((nI m), D, Pa, V, G, M, K, B, S, C), ((nI m), D, Pb, V, M, K, B, C, S), ⟨_, _, _, _, _, _, _, _, _, _, _, g, rfl, rfl, T, hM, hK, hB, hO, hQ⟩, fun post hp => ?_, fun post hp => ?_⟩
    · exact ⟨ds_vx hn j8, ds_bf (ds_cx hn j8) z hp⟩
    · unfold wY_make_170
      exact ds_kn hK hn j8 (br_f z hp)
/-! find against the search in Y's make -/
theorem ds_fiL (hm : m ≤ 80) {n d : Nat} {p p' x k : Int32} (hp : ∀ i, i < m → (Pa i = p ↔ Pb i = p')) : ∀ e i : Nat, i + e = m →
    (∃ j, j < m ∧ D j = nI d ∧ (∀ post : Int32 → Prop, post (nI j) → wX_find_3 post (nI d) p x k (nI m) D Pa V G M K B S C (e + 1) (nI i)) ∧
      (∀ post : Int32 → SY → Prop, wY_make_64 post (nI n) (nI d) p' x k (nI j) (nI m) D Pb V M K B C S → wY_make_3 post (nI n) (nI d) p' x k (nI m) D Pb V M K B C S (e + 1) (nI i))) ∨
    ((∀ post : Int32 → Prop, post (-1000000003) → wX_find_3 post (nI d) p x k (nI m) D Pa V G M K B S C (e + 1) (nI i)) ∧
      (∀ post : Int32 → SY → Prop, wY_make_64 post (nI n) (nI d) p' x k (nI m) (nI m) D Pb V M K B C S → wY_make_3 post (nI n) (nI d) p' x k (nI m) D Pb V M K B C S (e + 1) (nI i))) := by
  intro e
  induction e with
  | zero =>
    intro i hi
    have h : nI m ≤ nI i := nI_le (by omega) (by omega)
    obtain rfl : i = m := by omega
    exact .inr ⟨fun _ hp => br_t h hp, fun _ hp => br_t h hp⟩
  | succ e ih =>
    intro i hi
    have h : ¬ nI m ≤ nI i := nI_ge (by omega) (by omega)
    have i8 : i < 80 := by omega
    have key : (D i = nI d ∧ Pb i = p' ∧ V i = x ∧ M i = k) ∨
        ((∀ post : Int32 → Prop, wX_find_3 post (nI d) p x k (nI m) D Pa V G M K B S C (e + 1) (nI (i + 1)) → wX_find_3 post (nI d) p x k (nI m) D Pa V G M K B S C (e + 1 + 1) (nI i)) ∧
         (∀ post : Int32 → SY → Prop, wY_make_3 post (nI n) (nI d) p' x k (nI m) D Pb V M K B C S (e + 1) (nI (i + 1)) → wY_make_3 post (nI n) (nI d) p' x k (nI m) D Pb V M K B C S (e + 1 + 1) (nI i))) := by
      by_cases h1 : D i = nI d
      · by_cases h2 : Pb i = p'
        · have h2' := (hp i (by omega)).mpr h2
          by_cases h3 : V i = x
          · by_cases h4 : M i = k
            · exact .inl ⟨h1, h2, h3, h4⟩
            · exact .inr ⟨fun post H => br_f h ⟨ds_v i8, ds_bt (ds_c i8) h1 ⟨ds_v i8, ds_bt (ds_c i8) h2' ⟨ds_v i8, ds_bt (ds_c i8) h3 ⟨ds_v i8, ds_bf (ds_c i8) h4 (nm_r (nI_1 i) H)⟩⟩⟩⟩,
                fun post H => br_f h ⟨ds_v i8, ds_bt (ds_c i8) h1 ⟨ds_v i8, ds_bt (ds_c i8) h2 ⟨ds_v i8, ds_bt (ds_c i8) h3 ⟨ds_v i8, ds_bf (ds_c i8) h4 (nm_r (nI_1 i) H)⟩⟩⟩⟩⟩
          · exact .inr ⟨fun post H => br_f h ⟨ds_v i8, ds_bt (ds_c i8) h1 ⟨ds_v i8, ds_bt (ds_c i8) h2' ⟨ds_v i8, ds_bf (ds_c i8) h3 (nm_r (nI_1 i) H)⟩⟩⟩,
              fun post H => br_f h ⟨ds_v i8, ds_bt (ds_c i8) h1 ⟨ds_v i8, ds_bt (ds_c i8) h2 ⟨ds_v i8, ds_bf (ds_c i8) h3 (nm_r (nI_1 i) H)⟩⟩⟩⟩
        · have h2' : ¬ Pa i = p := fun y => h2 ((hp i (by omega)).mp y)
          exact .inr ⟨fun post H => br_f h ⟨ds_v i8, ds_bt (ds_c i8) h1 ⟨ds_v i8, ds_bf (ds_c i8) h2' (nm_r (nI_1 i) H)⟩⟩,
            fun post H => br_f h ⟨ds_v i8, ds_bt (ds_c i8) h1 ⟨ds_v i8, ds_bf (ds_c i8) h2 (nm_r (nI_1 i) H)⟩⟩⟩
      · exact .inr ⟨fun post H => br_f h ⟨ds_v i8, ds_bf (ds_c i8) h1 (nm_r (nI_1 i) H)⟩, fun post H => br_f h ⟨ds_v i8, ds_bf (ds_c i8) h1 (nm_r (nI_1 i) H)⟩⟩
    rcases key with ⟨h1, h2, h3, h4⟩ | ⟨kX, kY⟩
    · have h2' := (hp i (by omega)).mpr h2
      exact .inl ⟨i, by omega, h1, fun post H => br_f h ⟨ds_v i8, ds_bt (ds_c i8) h1 ⟨ds_v i8, ds_bt (ds_c i8) h2' ⟨ds_v i8, ds_bt (ds_c i8) h3 ⟨ds_v i8, ds_bt (ds_c i8) h4 H⟩⟩⟩⟩,
        fun post H => br_f h ⟨ds_v i8, ds_bt (ds_c i8) h1 ⟨ds_v i8, ds_bt (ds_c i8) h2 ⟨ds_v i8, ds_bt (ds_c i8) h3 ⟨ds_v i8, ds_bt (ds_c i8) h4 H⟩⟩⟩⟩⟩
    · rcases ih (i + 1) (by omega) with ⟨j, hj, hD, aX, aY⟩ | ⟨aX, aY⟩
      · exact .inl ⟨j, hj, hD, fun post H => kX post (aX post H), fun post H => kY post (aY post H)⟩
      · exact .inr ⟨fun post H => kX post (aX post H), fun post H => kY post (aY post H)⟩
/-! a new revision -/
theorem ds_Ta (T : ds_T m Pa Pb G g) {p p' : Int32} {k : Nat} (hm : m < 80) (hp : (p = -1000000003 ∧ p' = -1 ∧ k = 1) ∨ ∃ q, q < m ∧ p = nI q ∧ p' = nI q ∧ k = g q + 1) :
    ds_T (m + 1) (upd Pa m p) (upd Pb m p') (upd G m (nI k)) (fun j => if j = m then k else g j) := by
  refine ⟨hm, fun r hr => ?_⟩
  by_cases e : r = m
  · subst e
    rw [ds_us, ds_us, ds_us]
    simp only [if_true]
    rcases hp with ⟨h1, h2, h3⟩ | ⟨q, hq, h1, h2, h3⟩
    · exact ⟨by omega, by omega, by trivial, .inl ⟨h1, h2, h3⟩⟩
    · have := (T.2 q hq).2.1
      exact ⟨by omega, by omega, by trivial, .inr ⟨q, hq, h1, h2, by rw [if_neg (by omega)]; exact h3⟩⟩
  · have hr' : r < m := by omega
    rw [ds_un e, ds_un e, ds_un e]
    simp only [if_neg e]
    obtain ⟨t1, t2, t3, t4⟩ := T.2 r hr'
    refine ⟨t1, t2, t3, ?_⟩
    rcases t4 with h | ⟨q, hq, h1, h2, h3⟩
    · exact .inl h
    · exact .inr ⟨q, hq, h1, h2, by rw [if_neg (by omega)]; exact h3⟩
theorem ds_adX (hm : m < 80) {dd p x k : Int32} {e : Nat} (hk : k = 0 ∨ k = 1) (hg : (p = -1000000003 ∧ e = 1) ∨ ∃ q, q < 80 ∧ p = nI q ∧ nI e = G q + 1) {post : Int32 → SX → Prop}
    (h : post (nI m) ((nI (m + 1)), (upd D m dd), (upd Pa m p), (upd V m x), (upd G m (nI e)), (upd M m k), K, B, S, C)) : wpX_add post ((nI m), D, Pa, V, G, M, K, B, S, C) dd p x k := by
  have ec : (nI m).toNatClampNeg = m := ds_c hm
  have hE : ∀ z : Int32, z = nI e → wX_add_54 post k (nI m) z (nI m) (nI m) (upd D m dd) (upd Pa m p) (upd V m x) G M K B S C := by
    intro z hz
    exact ⟨ds_v hm, nm_r (e' := upd G m (nI e)) (by rw [ec, hz]) ⟨ds_v hm, nm_r (e' := upd M m k) (by rw [ec, ds_bz hk]) (nm_r (nI_1 m) h)⟩⟩
  refine ⟨ds_v hm, nm_r (e' := upd D m dd) (by rw [ec]) ⟨ds_v hm, nm_r (e' := upd Pa m p) (by rw [ec]) ⟨ds_v hm, nm_r (e' := upd V m x) (by rw [ec]) ?_⟩⟩⟩
  rcases hg with ⟨h1, h2⟩ | ⟨q, hq, h1, h2⟩
  · subst h2
    exact br_t h1 (hE 1 rfl)
  · subst h1
    exact br_f (ds_nn hq) ⟨ds_v hq, hE _ (by rw [ds_c hq]; exact h2.symm)⟩
theorem ds_12 (hm : m < 80) (hO : ds_O m K B) {n d : Int32} {post : Int32 → SY → Prop} (H : wY_make_170 post n d (nI m) (nI (m + 1)) D Pb V M K B C S) : ∀ e s : Nat, s + e = 3 → wY_make_120 post n d (nI m) (nI m) (e + 1) (nI s) D Pb V M K B C S := by
  intro e
  induction e with
  | zero =>
    intro s hs
    exact br_t (nI_le (a := 3) (by omega) (by omega)) (nm_r (nI_1 m) H)
  | succ e ih =>
    intro s hs
    have s3 : s < 3 := by omega
    obtain ⟨h1, h2⟩ := hO s m s3 (by omega) hm
    exact br_f (nI_ge (b := 3) s3 (by decide)) ⟨ds_vy s3 hm, nm_r (e' := K) (by rw [ds_cy s3 hm, ds_b0]; exact ds_uv h1) ⟨ds_vy s3 hm, nm_r (e' := B) (by rw [ds_cy s3 hm, ds_b0]; exact ds_uv h2) (nm_r (nI_1 s) (ih (s + 1) (by omega)))⟩⟩
/-- make -/
theorem ds_mk (T : ds_T m Pa Pb G g) (hM : ds_Z M) (hK : ds_Z K) (hB : ds_Z B) (hO : ds_O m K B) (hQ : ds_Q m D K S) {n d : Nat} (hn : n < 3) (hd : d < 8) {p p' k : Int32} (x : Int32) (hk : k = 0 ∨ k = 1)
    (hp : (p = -1000000003 ∧ p' = -1) ∨ ∃ q, q < m ∧ p = nI q ∧ p' = nI q) : ∃ (r : Int32) (u' : SX) (v' : SY), ds_R u' v' ∧
    (∀ post : Int32 → SX → Prop, post r u' → wpX_make post ((nI m), D, Pa, V, G, M, K, B, S, C) (nI n) (nI d) p x k) ∧
    (∀ post : Int32 → SY → Prop, post r v' → wpY_make post ((nI m), D, Pb, V, M, K, B, C, S) (nI n) (nI d) p' x k) := by
  have hm := T.1
  have hpp : ∀ i, i < m → (Pa i = p ↔ Pb i = p') := by
    intro i hi
    rcases hp with ⟨rfl, rfl⟩ | ⟨q, hq, rfl, rfl⟩
    · rcases (T.2 i hi).2.2.2 with ⟨h1, h2, _⟩ | ⟨q, hq, h1, h2, _⟩
      · exact ⟨fun _ => h2, fun _ => h1⟩
      · rw [h1, h2]
        exact ⟨fun e => absurd e (ds_nn (by omega)), fun e => absurd e (ds_n1 (by omega))⟩
    · exact ds_pa T hi (by omega)
  rcases ds_fiL (D := D) (V := V) (G := G) (M := M) (K := K) (B := B) (C := C) (S := S) (n := n) (d := d) (x := x) (k := k) hm hpp m 0 (by omega) with ⟨j, hj, hD, fX, fY⟩ | ⟨fX, fY⟩
  · obtain ⟨u', v', hR, tX, tY⟩ := ds_tl (V := V) (C := C) T hM hK hB hO hQ hn hd hj hD
    refine ⟨nI j, u', v', hR, fun post h => ?_, fun post h => ⟨_, fY _ ?_⟩⟩
    · unfold wpX_make
      exact ⟨_, fX _ (br_f (ds_nn (by omega)) (tX post h))⟩
    · exact br_f (fun e => by rw [ds_80] at e; have := (nI_eq (by omega) (by omega)).mp e; omega) (br_f (fun e => by have := (nI_eq (by omega) (by omega)).mp e; omega) (tY post h))
  · by_cases m8 : m < 80
    · obtain ⟨e, he1, he2⟩ : ∃ e : Nat, ((p = -1000000003 ∧ p' = -1 ∧ e = 1) ∨ ∃ q, q < m ∧ p = nI q ∧ p' = nI q ∧ e = g q + 1) ∧ ((p = -1000000003 ∧ e = 1) ∨ ∃ q, q < 80 ∧ p = nI q ∧ nI e = G q + 1) := by
        rcases hp with ⟨h1, h2⟩ | ⟨q, hq, h1, h2⟩
        · exact ⟨1, .inl ⟨h1, h2, rfl⟩, .inl ⟨h1, rfl⟩⟩
        · exact ⟨g q + 1, .inr ⟨q, hq, h1, h2, rfl⟩, .inr ⟨q, by omega, h1, by rw [(T.2 q hq).2.2.1, nI_1]⟩⟩
      have T' := ds_Ta T m8 he1
      have hO' : ds_O (m + 1) K B := fun s r hs hr h8 => hO s r hs (by omega) h8
      have hQ' : ds_Q (m + 1) (upd D m (nI d)) K S := by
        intro s f hs hf h
        obtain ⟨r, hr, h1, h2⟩ := hQ s f hs hf h
        exact ⟨r, by omega, by rw [ds_un (by omega)]; exact h1, h2⟩
      obtain ⟨u', v', hR, tX, tY⟩ := ds_tl (V := upd V m x) (C := C) T' (ds_zu hM hk m) hK hB hO' hQ' hn hd (show m < m + 1 by omega) ds_us
      refine ⟨nI m, u', v', hR, fun post h => ?_, fun post h => ⟨_, fY _ ?_⟩⟩
      · unfold wpX_make
        exact ⟨_, fX _ (br_t rfl (br_t (nI_lt (b := 80) m8 (by decide)) (ds_adX m8 hk he2 (tX post h))))⟩
      · have ec : (nI m).toNatClampNeg = m := ds_c m8
        exact br_f (fun e => by rw [ds_80] at e; have := (nI_eq (by omega) (by omega)).mp e; omega) (br_t rfl ⟨ds_v m8, nm_r (e' := upd D m (nI d)) (by rw [ec]) ⟨ds_v m8, nm_r (e' := upd Pb m p') (by rw [ec]) ⟨ds_v m8, nm_r (e' := upd V m x) (by rw [ec]) ⟨ds_v m8, nm_r (e' := upd M m k) (by rw [ec, ds_bz hk]) ⟨_, ds_12 m8 hO (tY post h) 3 0 (by omega)⟩⟩⟩⟩⟩)
    · obtain rfl : m = 80 := by omega
      refine ⟨-1000000002, ((nI 80), D, Pa, V, G, M, K, B, S, C), ((nI 80), D, Pb, V, M, K, B, C, S), ⟨_, _, _, _, _, _, _, _, _, C, _, g, rfl, rfl, T, hM, hK, hB, hO, hQ⟩, fun post h => ?_, fun post h => ⟨_, fY _ ?_⟩⟩
      · unfold wpX_make
        exact ⟨_, fX _ (br_t rfl (br_f (nI_nlt (a := 80) (b := 80) (by omega) (by decide)) h))⟩
      · exact br_t rfl h
end
end
section
section
variable {m : Nat} {D Pa Pb V G M : Nat → Int32} {g : Nat → Nat}
theorem ds_Ob {K B : Nat → Int32} (hO : ds_O m K B) {n j : Nat} (hj : j < m) (hm : m ≤ 80) (y : Int32) : ds_O m K (upd B (n * 80 + j) y) := by
  intro s r hs hr h8
  have h := hO s r hs hr h8
  rw [ds_un (by omega)]
  exact h
theorem ds_Ok {K B : Nat → Int32} (hO : ds_O m K B) {n j : Nat} (hj : j < m) (hm : m ≤ 80) (x : Int32) : ds_O m (upd K (n * 80 + j) x) B := by
  intro s r hs hr h8
  have h := hO s r hs hr h8
  rw [ds_un (by omega)]
  exact h
/-! compact -/
theorem ds_coL {K S C : Nat → Int32} (T : ds_T m Pa Pb G g) (hK : ds_Z K) {n : Nat} (hn : n < 3) : ∀ d i : Nat, i + d = m → ∀ (B : Nat → Int32) (c : Int32), ds_Z B → ds_O m K B → ∃ (a : Int32) (B' : Nat → Int32), ds_Z B' ∧ ds_O m K B' ∧
    (∀ post : Int32 → SX → Prop, post a ((nI m), D, Pa, V, G, M, K, B', S, C) → wX_compact_14 post (nI n) (nI m) (d + 1) c (nI i) D Pa V G M K B S C) ∧
    (∀ post : Int32 → SY → Prop, post a ((nI m), D, Pb, V, M, K, B', C, S) → wY_compact_15 post (nI n) (nI m) (d + 1) c (nI i) D Pb V M K B C S) := by
  have hm := T.1
  intro d
  induction d with
  | zero =>
    intro i hi B c hB hO
    have h : nI m ≤ nI i := nI_le (by omega) (by omega)
    exact ⟨c, B, hB, hO, fun _ hp => br_t h hp, fun _ hp => br_t h hp⟩
  | succ d ih =>
    intro i hi B c hB hO
    have h : ¬ nI m ≤ nI i := nI_ge (by omega) (by omega)
    have i8 : i < 80 := by omega
    by_cases z : B (n * 80 + i) = 0
    · obtain ⟨a, B', h1, h2, aX, aY⟩ := ih (i + 1) (by omega) B c hB hO
      exact ⟨a, B', h1, h2, fun post hp => br_f h ⟨ds_vx hn i8, ds_bt (ds_cx hn i8) z (nm_r (nI_1 i) (aX post hp))⟩, fun post hp => br_f h ⟨ds_vy hn i8, ds_bt (ds_cy hn i8) z (nm_r (nI_1 i) (aY post hp))⟩⟩
    · obtain ⟨l, hl, lX, lY, _⟩ := ds_le (D := D) (V := V) (M := M) (B := B) (C := C) (S := S) T hK hn (show i < m by omega)
      rcases hl with rfl | rfl
      · obtain ⟨a, B', h1, h2, aX, aY⟩ := ih (i + 1) (by omega) (upd B (n * 80 + i) 0) (c + 1) (ds_zu hB (.inl rfl) _) (ds_Ob hO (by omega) hm 0)
        refine ⟨a, B', h1, h2, fun post hp => br_f h ⟨ds_vx hn i8, ds_bf (ds_cx hn i8) z (lX _ (br_t rfl ⟨ds_vx hn i8, nm_r (e' := upd B (n * 80 + i) 0) (by rw [ds_cx hn i8, ds_b0]) (nm_e (nm_r (nI_1 i) (aX post hp)))⟩))⟩, fun post hp => br_f h ⟨ds_vy hn i8, ds_bf (ds_cy hn i8) z ⟨ds_v i8, ?_⟩⟩⟩
        rw [ds_c i8]
        exact lY _ (br_t rfl ⟨ds_vy hn i8, nm_r (e' := upd B (n * 80 + i) 0) (by rw [ds_cy hn i8, ds_b0]) (nm_e (nm_r (nI_1 i) (aY post hp)))⟩)
      · obtain ⟨a, B', h1, h2, aX, aY⟩ := ih (i + 1) (by omega) B c hB hO
        refine ⟨a, B', h1, h2, fun post hp => br_f h ⟨ds_vx hn i8, ds_bf (ds_cx hn i8) z (lX _ (br_f ds_10 (nm_r (nI_1 i) (aX post hp))))⟩, fun post hp => br_f h ⟨ds_vy hn i8, ds_bf (ds_cy hn i8) z ⟨ds_v i8, ?_⟩⟩⟩
        rw [ds_c i8]
        exact lY _ (br_f ds_10 (nm_r (nI_1 i) (aY post hp)))
/-! purge -/
theorem ds_puL {S C : Nat → Int32} (hm : m ≤ 80) {n q : Nat} (hn : n < 3) : ∀ d i : Nat, i + d = m → ∀ (K B : Nat → Int32) (e : Nat), e ≤ i → ds_Z K → ds_Z B → ds_O m K B → ∃ (f : Nat) (K' B' : Nat → Int32), e ≤ f ∧ f ≤ m ∧ ds_Z K' ∧ ds_Z B' ∧ ds_O m K' B' ∧
    (∀ j, K' j = K j ∨ ∃ r, r < m ∧ j = n * 80 + r ∧ D r = nI q) ∧
    (f = e → K' = K ∧ B' = B ∧ ∀ r, i ≤ r → r < m → D r = nI q → K (n * 80 + r) = 0) ∧
    (∀ post : Int32 → SX → Prop, wX_purge_22 post (nI n) (nI q) (nI m) 1 (nI f) (nI m) D Pa V G M K' B' S C → wX_purge_22 post (nI n) (nI q) (nI m) (d + 1) (nI e) (nI i) D Pa V G M K B S C) ∧
    (∀ post : Int32 → SY → Prop, wY_purge_17 post (nI n) (nI q) (nI m) 1 (nI f) (nI m) D Pb V M K' B' C S → wY_purge_17 post (nI n) (nI q) (nI m) (d + 1) (nI e) (nI i) D Pb V M K B C S) := by
  intro d
  induction d with
  | zero =>
    intro i hi K B e he hK hB hO
    obtain rfl : i = m := by omega
    exact ⟨e, K, B, by omega, he, hK, hB, hO, fun j => .inl rfl, fun _ => ⟨rfl, rfl, fun r h1 h2 => by omega⟩, fun _ hp => hp, fun _ hp => hp⟩
  | succ d ih =>
    intro i hi K B e he hK hB hO
    have h : ¬ nI m ≤ nI i := nI_ge (by omega) (by omega)
    have i8 : i < 80 := by omega
    by_cases y : D i = nI q
    · by_cases z : K (n * 80 + i) = 0
      · obtain ⟨f, K', B', h1, h2, h3, h4, h5, h6, h7, aX, aY⟩ := ih (i + 1) (by omega) K B e (by omega) hK hB hO
        refine ⟨f, K', B', h1, h2, h3, h4, h5, h6, fun ef => ⟨(h7 ef).1, (h7 ef).2.1, fun r r1 r2 r3 => ?_⟩, fun post hp => br_f h ⟨ds_v i8, ds_bt (ds_c i8) y ⟨ds_vx hn i8, ds_bt (ds_cx hn i8) z (nm_r (nI_1 i) (aX post hp))⟩⟩, fun post hp => br_f h ⟨ds_v i8, ds_bt (ds_c i8) y (ds_kn hK hn i8 (br_t z (nm_r (nI_1 i) (aY post hp))))⟩⟩
        by_cases er : r = i
        · rw [er]; exact z
        · exact (h7 ef).2.2 r (by omega) r2 r3
      · obtain ⟨f, K', B', h1, h2, h3, h4, h5, h6, h7, aX, aY⟩ := ih (i + 1) (by omega) (upd K (n * 80 + i) 0) (upd B (n * 80 + i) 0) (e + 1) (by omega) (ds_zu hK (.inl rfl) _) (ds_zu hB (.inl rfl) _) (ds_Og hO (by omega) hm 0 0)
        refine ⟨f, K', B', by omega, h2, h3, h4, h5, fun j => ?_, fun ef => by omega,
          fun post hp => br_f h ⟨ds_v i8, ds_bt (ds_c i8) y ⟨ds_vx hn i8, ds_bf (ds_cx hn i8) z ⟨ds_vx hn i8, nm_r (e' := upd K (n * 80 + i) 0) (by rw [ds_cx hn i8, ds_b0]) ⟨ds_vx hn i8, nm_r (e' := upd B (n * 80 + i) 0) (by rw [ds_cx hn i8, ds_b0]) (nm_r (nI_1 e) (nm_r (nI_1 i) (aX post hp)))⟩⟩⟩⟩,
          fun post hp => br_f h ⟨ds_v i8, ds_bt (ds_c i8) y (ds_kn hK hn i8 (br_f z ⟨ds_vy hn i8, nm_r (e' := upd K (n * 80 + i) 0) (by rw [ds_cy hn i8, ds_b0]) ⟨ds_vy hn i8, nm_r (e' := upd B (n * 80 + i) 0) (by rw [ds_cy hn i8, ds_b0]) (nm_r (nI_1 e) (nm_r (nI_1 i) (aY post hp)))⟩⟩))⟩⟩
        rcases h6 j with h | h
        · by_cases ej : j = n * 80 + i
          · exact .inr ⟨i, by omega, ej, y⟩
          · rw [ds_un ej] at h
            exact .inl h
        · exact .inr h
    · obtain ⟨f, K', B', h1, h2, h3, h4, h5, h6, h7, aX, aY⟩ := ih (i + 1) (by omega) K B e (by omega) hK hB hO
      refine ⟨f, K', B', h1, h2, h3, h4, h5, h6, fun ef => ⟨(h7 ef).1, (h7 ef).2.1, fun r r1 r2 r3 => ?_⟩, fun post hp => br_f h ⟨ds_v i8, ds_bf (ds_c i8) y (nm_r (nI_1 i) (aX post hp))⟩, fun post hp => br_f h ⟨ds_v i8, ds_bf (ds_c i8) y (nm_r (nI_1 i) (aY post hp))⟩⟩
      by_cases er : r = i
      · rw [er] at r3; exact absurd r3 y
      · exact (h7 ef).2.2 r (by omega) r2 r3
theorem ds_pu {K B S C : Nat → Int32} (T : ds_T m Pa Pb G g) (hM : ds_Z M) (hK : ds_Z K) (hB : ds_Z B) (hO : ds_O m K B) (hQ : ds_Q m D K S) {n q : Nat} (hn : n < 3) (hq : q < 8) : ∃ (a : Int32) (u' : SX) (v' : SY), ds_R u' v' ∧
    (∀ post : Int32 → SX → Prop, post a u' → wX_purge_22 post (nI n) (nI q) (nI m) (m + 1) (nI 0) (nI 0) D Pa V G M K B S C) ∧
    (∀ post : Int32 → SY → Prop, post a v' → wY_purge_17 post (nI n) (nI q) (nI m) (m + 1) (nI 0) (nI 0) D Pb V M K B C S) := by
  have hm := T.1
  obtain ⟨f, K', B', _, h2, h3, h4, h5, h6, h7, aX, aY⟩ := ds_puL (D := D) (Pa := Pa) (Pb := Pb) (V := V) (G := G) (M := M) (S := S) (C := C) (q := q) hm hn m 0 (by omega) K B 0 (by omega) hK hB hO
  have h : nI m ≤ nI m := nI_le (by omega) (by omega)
  by_cases z : f = 0
  · obtain ⟨rfl, rfl, h8⟩ := h7 z
    subst z
    have s0 : S (n * 8 + q) = 0 := by
      by_cases y : S (n * 8 + q) = 0
      · exact y
      · obtain ⟨r, hr, r1, r2⟩ := hQ n q hn hq y
        exact absurd (h8 r (by omega) hr r1) r2
    exact ⟨-1000000003, ((nI m), D, Pa, V, G, M, K', B', S, C), ((nI m), D, Pb, V, M, K', B', C, S), ⟨_, _, _, _, _, _, _, _, _, _, _, g, rfl, rfl, T, hM, hK, hB, hO, hQ⟩, fun post hp => aX post (br_t h (br_t rfl hp)),
      fun post hp => aY post (br_t h ⟨ds_wy hn hq, nm_r (e' := S) (by rw [ds_dy hn hq]; exact ds_uv s0) (br_t rfl hp)⟩)⟩
  · have f0 : ¬ nI f = 0 := nI_ne0 (by omega) (by omega)
    refine ⟨nI f, ((nI m), D, Pa, V, G, M, K', B', (upd S (n * 8 + q) 0), C), ((nI m), D, Pb, V, M, K', B', C, (upd S (n * 8 + q) 0)), ⟨_, _, _, _, _, _, _, _, _, _, _, g, rfl, rfl, T, hM, h3, h4, h5, ?_⟩,
      fun post hp => aX post (br_t h (br_f f0 ⟨ds_wx hn hq, nm_r (e' := upd S (n * 8 + q) 0) (by rw [ds_dx hn hq]) hp⟩)),
      fun post hp => aY post (br_t h ⟨ds_wy hn hq, nm_r (e' := upd S (n * 8 + q) 0) (by rw [ds_dy hn hq]) (br_f f0 hp)⟩)⟩
    intro s d hs hd y
    by_cases e : s * 8 + d = n * 8 + q
    · rw [e, ds_us] at y
      exact absurd rfl y
    · rw [ds_un e] at y
      obtain ⟨r, hr, r1, r2⟩ := hQ s d hs hd y
      refine ⟨r, hr, r1, ?_⟩
      rcases h6 (s * 80 + r) with k | ⟨r', hr', k1, k2⟩
      · rw [k]; exact r2
      · obtain rfl : r = r' := by omega
        obtain rfl : s = n := by omega
        rw [r1] at k2
        have := ds_nI (by omega) (by omega) k2
        omega
/-! hasNewsFor against isAhead -/
theorem ds_haL {K B S C : Nat → Int32} (hm : m ≤ 80) (hK : ds_Z K) {n o q : Nat} (hn : n < 3) (ho : o < 3) : ∀ d i : Nat, i + d = m → ∃ a : Int32, (a = 0 ∨ (a = 1 ∧ ∃ r, r < m ∧ D r = nI q ∧ ¬ K (n * 80 + r) = 0)) ∧
    (∀ post : Int32 → Prop, post a → wX_hasNewsFor_3 post (nI n) (nI o) (nI q) (nI m) D Pa V G M K B S C (d + 1) (nI i)) ∧
    (∀ post : Int32 → Prop, post a → wY_isAhead_3 post (nI n) (nI o) (nI q) (nI m) D Pb V M K B C S (d + 1) (nI i)) := by
  intro d
  induction d with
  | zero =>
    intro i hi
    have h : nI m ≤ nI i := nI_le (by omega) (by omega)
    exact ⟨0, .inl rfl, fun _ hp => br_t h hp, fun _ hp => br_t h hp⟩
  | succ d ih =>
    intro i hi
    have h : ¬ nI m ≤ nI i := nI_ge (by omega) (by omega)
    have i8 : i < 80 := by omega
    obtain ⟨a, ha, aX, aY⟩ := ih (i + 1) (by omega)
    by_cases y : D i = nI q
    · by_cases z : K (n * 80 + i) = 0
      · exact ⟨a, ha, fun post hp => br_f h ⟨ds_v i8, ds_bt (ds_c i8) y ⟨ds_vx hn i8, ds_bt (ds_cx hn i8) z (nm_r (nI_1 i) (aX post hp))⟩⟩, fun post hp => br_f h ⟨ds_v i8, ds_bt (ds_c i8) y (ds_kn hK hn i8 (br_t z (nm_r (nI_1 i) (aY post hp))))⟩⟩
      · by_cases w : K (o * 80 + i) = 0
        · exact ⟨1, .inr ⟨rfl, i, by omega, y, z⟩, fun post hp => br_f h ⟨ds_v i8, ds_bt (ds_c i8) y ⟨ds_vx hn i8, ds_bf (ds_cx hn i8) z ⟨ds_vx ho i8, ds_bt (ds_cx ho i8) w hp⟩⟩⟩, fun post hp => br_f h ⟨ds_v i8, ds_bt (ds_c i8) y (ds_kn hK hn i8 (br_f z (ds_kn hK ho i8 (br_t w hp))))⟩⟩
        · exact ⟨a, ha, fun post hp => br_f h ⟨ds_v i8, ds_bt (ds_c i8) y ⟨ds_vx hn i8, ds_bf (ds_cx hn i8) z ⟨ds_vx ho i8, ds_bf (ds_cx ho i8) w (nm_r (nI_1 i) (aX post hp))⟩⟩⟩, fun post hp => br_f h ⟨ds_v i8, ds_bt (ds_c i8) y (ds_kn hK hn i8 (br_f z (ds_kn hK ho i8 (br_f w (nm_r (nI_1 i) (aY post hp))))))⟩⟩
    · exact ⟨a, ha, fun post hp => br_f h ⟨ds_v i8, ds_bf (ds_c i8) y (nm_r (nI_1 i) (aX post hp))⟩, fun post hp => br_f h ⟨ds_v i8, ds_bf (ds_c i8) y (nm_r (nI_1 i) (aY post hp))⟩⟩
/-! copyDocument -/
theorem ds_cdL {S C : Nat → Int32} (T : ds_T m Pa Pb G g) {n o q : Nat} (hn : n < 3) (ho : o < 3) (hq : q < 8) : ∀ d i : Nat, i + d = m → ∀ K B : Nat → Int32, ds_Z K → ds_Z B → ds_O m K B → ∃ K' B' : Nat → Int32, ds_Z K' ∧ ds_Z B' ∧ ds_O m K' B' ∧
    (∀ j, ¬ K j = 0 → ¬ K' j = 0) ∧ (∀ r, i ≤ r → r < m → D r = nI q → ¬ K (n * 80 + r) = 0 → ¬ K' (o * 80 + r) = 0) ∧
    (∀ post : SX → Prop, post ((nI m), D, Pa, V, G, M, K', B', (upd S (o * 8 + q) (upd C o (C o + 1) o)), (upd C o (C o + 1))) → wX_copyDocument_3 post (nI n) (nI o) (nI q) (nI m) (d + 1) (nI i) D Pa V G M K B S C) ∧
    (∀ post : SY → Prop, post ((nI m), D, Pb, V, M, K', B', (upd C o (C o + 1)), (upd S (o * 8 + q) (upd C o (C o + 1) o))) → wY_copyDocument_3 post (nI n) (nI o) (nI q) (nI m) (d + 1) (nI i) D Pb V M K B C S) := by
  have hm := T.1
  intro d
  induction d with
  | zero =>
    intro i hi K B hK hB hO
    have h : nI m ≤ nI i := nI_le (by omega) (by omega)
    exact ⟨K, B, hK, hB, hO, fun _ h => h, fun r h1 h2 => by omega, fun _ hp => br_t h (ds_gsX ho hq hp), fun _ hp => br_t h (ds_gsY ho hq hp)⟩
  | succ d ih =>
    intro i hi K B hK hB hO
    have h : ¬ nI m ≤ nI i := nI_ge (by omega) (by omega)
    have i8 : i < 80 := by omega
    by_cases y : D i = nI q
    · by_cases z : K (n * 80 + i) = 0
      · obtain ⟨K', B', h1, h2, h3, h4, h5, aX, aY⟩ := ih (i + 1) (by omega) K B hK hB hO
        refine ⟨K', B', h1, h2, h3, h4, fun r r1 r2 r3 r4 => ?_, fun post hp => br_f h ⟨ds_v i8, ds_bt (ds_c i8) y ⟨ds_vx hn i8, ds_bt (ds_cx hn i8) z (nm_r (nI_1 i) (aX post hp))⟩⟩, fun post hp => br_f h ⟨ds_v i8, ds_bt (ds_c i8) y (ds_kn hK hn i8 (br_t z (nm_r (nI_1 i) (aY post hp))))⟩⟩
        by_cases e : r = i
        · rw [e] at r4; exact absurd z r4
        · exact h5 r (by omega) r2 r3 r4
      · have hK1 : ds_Z (upd K (o * 80 + i) 1) := ds_zu hK (.inr rfl) _
        have hg1 : ∀ j, ¬ K j = 0 → ¬ upd K (o * 80 + i) 1 j = 0 := fun j hj => ds_gu ds_10 _ j hj
        have ekx : upd K (nI o * 80 + nI i).toNatClampNeg (vp_nar .boolean 1) = upd K (o * 80 + i) 1 := by rw [ds_cx ho i8, ds_b1]
        have eky : upd K (80 * nI o + nI i).toNatClampNeg (vp_nar .boolean 1) = upd K (o * 80 + i) 1 := by rw [ds_cy ho i8, ds_b1]
        have hb1 : ¬ B (o * 80 + i) = 0 → upd B (o * 80 + i) 1 = B := fun w => ds_uv ((hB _).resolve_left w)
        obtain ⟨l, hl, lX, lY, _⟩ := ds_le (D := D) (V := V) (M := M) (B := B) (C := C) (S := S) T hK1 hn (show i < m by omega)
        rw [y] at lY
        by_cases zb : B (n * 80 + i) = 0
        · obtain ⟨K', B', h1, h2, h3, h4, h5, aX, aY⟩ := ih (i + 1) (by omega) (upd K (o * 80 + i) 1) B hK1 hB (ds_Ok hO (by omega) hm 1)
          refine ⟨K', B', h1, h2, h3, fun j hj => h4 j (hg1 j hj), fun r r1 r2 r3 r4 => ?_, fun post hp => ?_, fun post hp => ?_⟩
          · by_cases e : r = i
            · rw [e]; exact h4 _ (by rw [ds_us]; exact ds_10)
            · exact h5 r (by omega) r2 r3 (hg1 _ r4)
          · exact br_f h ⟨ds_v i8, ds_bt (ds_c i8) y ⟨ds_vx hn i8, ds_bf (ds_cx hn i8) z ⟨ds_vx ho i8, nm_r ekx ⟨ds_vx hn i8, ds_bt (ds_cx hn i8) zb (nm_r (nI_1 i) (aX post hp))⟩⟩⟩⟩
          · refine br_f h ⟨ds_v i8, ds_bt (ds_c i8) y (ds_kn hK hn i8 (br_f z ⟨ds_vy ho i8, nm_r eky ⟨ds_vy ho i8, ?_⟩⟩))⟩
            by_cases w : B (o * 80 + i) = 0
            · refine ds_bt (ds_cy ho i8) w (lY _ ?_)
              rcases hl with rfl | rfl
              · exact br_t rfl ⟨ds_vy ho i8, nm_r (e' := B) (by rw [ds_cy ho i8, ds_b0]; exact ds_uv w) (nm_r (nI_1 i) (aY post hp))⟩
              · exact br_f ds_10 ⟨ds_vy hn i8, ds_bt (ds_cy hn i8) zb ⟨ds_vy ho i8, nm_r (e' := B) (by rw [ds_cy ho i8, ds_b0]; exact ds_uv w) (nm_r (nI_1 i) (aY post hp))⟩⟩
            · exact ds_bf (ds_cy ho i8) w ⟨ds_vy ho i8, nm_r (e' := B) (by rw [ds_cy ho i8, ds_b1]; exact hb1 w) (nm_r (nI_1 i) (aY post hp))⟩
        · rcases hl with rfl | rfl
          · obtain ⟨K', B', h1, h2, h3, h4, h5, aX, aY⟩ := ih (i + 1) (by omega) (upd K (o * 80 + i) 1) B hK1 hB (ds_Ok hO (by omega) hm 1)
            refine ⟨K', B', h1, h2, h3, fun j hj => h4 j (hg1 j hj), fun r r1 r2 r3 r4 => ?_, fun post hp => ?_, fun post hp => ?_⟩
            · by_cases e : r = i
              · rw [e]; exact h4 _ (by rw [ds_us]; exact ds_10)
              · exact h5 r (by omega) r2 r3 (hg1 _ r4)
            · exact br_f h ⟨ds_v i8, ds_bt (ds_c i8) y ⟨ds_vx hn i8, ds_bf (ds_cx hn i8) z ⟨ds_vx ho i8, nm_r ekx ⟨ds_vx hn i8, ds_bf (ds_cx hn i8) zb (lX _ (br_t rfl (nm_r (nI_1 i) (aX post hp))))⟩⟩⟩⟩
            · refine br_f h ⟨ds_v i8, ds_bt (ds_c i8) y (ds_kn hK hn i8 (br_f z ⟨ds_vy ho i8, nm_r eky ⟨ds_vy ho i8, ?_⟩⟩))⟩
              by_cases w : B (o * 80 + i) = 0
              · exact ds_bt (ds_cy ho i8) w (lY _ (br_t rfl ⟨ds_vy ho i8, nm_r (e' := B) (by rw [ds_cy ho i8, ds_b0]; exact ds_uv w) (nm_r (nI_1 i) (aY post hp))⟩))
              · exact ds_bf (ds_cy ho i8) w ⟨ds_vy ho i8, nm_r (e' := B) (by rw [ds_cy ho i8, ds_b1]; exact hb1 w) (nm_r (nI_1 i) (aY post hp))⟩
          · obtain ⟨K', B', h1, h2, h3, h4, h5, aX, aY⟩ := ih (i + 1) (by omega) (upd K (o * 80 + i) 1) (upd B (o * 80 + i) 1) hK1 (ds_zu hB (.inr rfl) _) (ds_Og hO (by omega) hm 1 1)
            have ebx : upd B (nI o * 80 + nI i).toNatClampNeg (vp_nar .boolean 1) = upd B (o * 80 + i) 1 := by rw [ds_cx ho i8, ds_b1]
            have eby : upd B (80 * nI o + nI i).toNatClampNeg (vp_nar .boolean 1) = upd B (o * 80 + i) 1 := by rw [ds_cy ho i8, ds_b1]
            refine ⟨K', B', h1, h2, h3, fun j hj => h4 j (hg1 j hj), fun r r1 r2 r3 r4 => ?_, fun post hp => ?_, fun post hp => ?_⟩
            · by_cases e : r = i
              · rw [e]; exact h4 _ (by rw [ds_us]; exact ds_10)
              · exact h5 r (by omega) r2 r3 (hg1 _ r4)
            · exact br_f h ⟨ds_v i8, ds_bt (ds_c i8) y ⟨ds_vx hn i8, ds_bf (ds_cx hn i8) z ⟨ds_vx ho i8, nm_r ekx ⟨ds_vx hn i8, ds_bf (ds_cx hn i8) zb (lX _ (br_f ds_10 ⟨ds_vx ho i8, nm_r ebx (nm_r (nI_1 i) (aX post hp))⟩))⟩⟩⟩⟩
            · refine br_f h ⟨ds_v i8, ds_bt (ds_c i8) y (ds_kn hK hn i8 (br_f z ⟨ds_vy ho i8, nm_r eky ⟨ds_vy ho i8, ?_⟩⟩))⟩
              by_cases w : B (o * 80 + i) = 0
              · exact ds_bt (ds_cy ho i8) w (lY _ (br_f ds_10 ⟨ds_vy hn i8, ds_bf (ds_cy hn i8) zb ⟨ds_vy ho i8, nm_r eby (nm_r (nI_1 i) (aY post hp))⟩⟩))
              · exact ds_bf (ds_cy ho i8) w ⟨ds_vy ho i8, nm_r eby (nm_r (nI_1 i) (aY post hp))⟩
    · obtain ⟨K', B', h1, h2, h3, h4, h5, aX, aY⟩ := ih (i + 1) (by omega) K B hK hB hO
      refine ⟨K', B', h1, h2, h3, h4, fun r r1 r2 r3 r4 => ?_, fun post hp => br_f h ⟨ds_v i8, ds_bf (ds_c i8) y (nm_r (nI_1 i) (aX post hp))⟩, fun post hp => br_f h ⟨ds_v i8, ds_bf (ds_c i8) y (nm_r (nI_1 i) (aY post hp))⟩⟩
      by_cases e : r = i
      · rw [e] at r3; exact absurd r3 y
      · exact h5 r (by omega) r2 r3 r4
end
end
section
/-! how many of the first k cells stand above t -/
def ds_ct (f : Nat → Int32) (t : Int32) : Nat → Nat
  | 0 => 0
  | k + 1 => ds_ct f t k + if f k ≤ t then 0 else 1
theorem ds_ct8 (f : Nat → Int32) (t : Int32) : ∀ k, ds_ct f t k ≤ k := by
  intro k
  induction k with
  | zero => exact Nat.le_refl _
  | succ k ih =>
    rw [ds_ct]
    split <;> omega
theorem ds_ctp {f : Nat → Int32} {t : Int32} : ∀ k j, j < k → ¬ f j ≤ t → 0 < ds_ct f t k := by
  intro k
  induction k with
  | zero => intro j hj; omega
  | succ k ih =>
    intro j hj h
    rw [ds_ct]
    by_cases e : j = k
    · subst e
      rw [if_neg h]
      omega
    · have := ih j (by omega) h
      omega
theorem ds_ctm {f : Nat → Int32} {t t' : Int32} (h : t ≤ t') : ∀ k, ds_ct f t' k ≤ ds_ct f t k := by
  intro k
  induction k with
  | zero => exact Nat.le_refl _
  | succ k ih =>
    rw [ds_ct, ds_ct]
    by_cases e : f k ≤ t
    · rw [if_pos e, if_pos (Int32.le_trans e h)]
      omega
    · rw [if_neg e]
      split <;> omega
theorem ds_ctl {f : Nat → Int32} {t t' : Int32} (h : t ≤ t') : ∀ k j, j < k → ¬ f j ≤ t → f j ≤ t' → ds_ct f t' k < ds_ct f t k := by
  intro k
  induction k with
  | zero => intro j hj; omega
  | succ k ih =>
    intro j hj h1 h2
    rw [ds_ct, ds_ct]
    by_cases e : j = k
    · subst e
      rw [if_neg h1, if_pos h2]
      have := ds_ctm (f := f) h j
      omega
    · have := ih j (by omega) h1 h2
      by_cases e : f k ≤ t
      · rw [if_pos e, if_pos (Int32.le_trans e h)]
        omega
      · rw [if_neg e]
        split <;> omega
theorem ds_ctc {f f' : Nat → Int32} {t : Int32} : ∀ k, (∀ i, i < k → f i = f' i) → ds_ct f t k = ds_ct f' t k := by
  intro k
  induction k with
  | zero => intro _; rfl
  | succ k ih =>
    intro h
    rw [ds_ct, ds_ct, ih (fun i hi => h i (by omega)), h k (by omega)]
section
variable {m : Nat} {D Pa Pb V G M : Nat → Int32} {g : Nat → Nat}
/-- what nextStamped answers on the two sides -/
def ds_N (S : Nat → Int32) (n : Nat) (t x y : Int32) (i : Nat) : Prop :=
  (x = -1000000003 ∧ y = -1) ∨ ∃ j, j < i ∧ x = nI j ∧ y = nI j ∧ ¬ S (n * 8 + j) ≤ t
theorem ds_nxL {K B S C : Nat → Int32} {n : Nat} (hn : n < 3) (t : Int32) : ∀ d i : Nat, i + d = 8 → ∀ x y z : Int32, ((x = -1000000003 ∧ y = -1) ∨ ∃ j, j < i ∧ x = nI j ∧ y = nI j ∧ z = S (n * 8 + j) ∧ ¬ S (n * 8 + j) ≤ t) → ∃ a b : Int32, ds_N S n t a b 8 ∧
    (∀ post : Int32 → Prop, post a → wX_nextStamped_9 post (nI n) t (nI m) D Pa V G M K B S C (d + 1) x z (nI i)) ∧
    (∀ post : Int32 → Prop, post b → wY_nextStamped_5 post (nI n) t (nI m) D Pb V M K B C S (d + 1) y (nI i)) := by
  intro d
  induction d with
  | zero =>
    intro i hi x y z hz
    have h : 8 ≤ nI i := nI_le (a := 8) (by omega) (by omega)
    refine ⟨x, y, ?_, fun _ hp => br_t h hp, fun _ hp => br_t h hp⟩
    rcases hz with h | ⟨j, h1, h2, h3, _, h5⟩
    · exact .inl h
    · exact .inr ⟨j, by omega, h2, h3, h5⟩
  | succ d ih =>
    intro i hi x y z hz
    have h : ¬ 8 ≤ nI i := nI_ge (b := 8) (by omega) (by decide)
    have i8 : i < 8 := by omega
    have hz' : (x = -1000000003 ∧ y = -1) ∨ ∃ j, j < i + 1 ∧ x = nI j ∧ y = nI j ∧ z = S (n * 8 + j) ∧ ¬ S (n * 8 + j) ≤ t := by
      rcases hz with h | ⟨j, h1, h2⟩
      · exact .inl h
      · exact .inr ⟨j, by omega, h2⟩
    have ex : S (nI n * 8 + nI i).toNatClampNeg = S (n * 8 + i) := by rw [ds_dx hn i8]
    have ey : S (8 * nI n + nI i).toNatClampNeg = S (n * 8 + i) := by rw [ds_dy hn i8]
    obtain ⟨a, b, hN, aX, aY⟩ := ih (i + 1) (by omega) x y z hz'
    by_cases l : S (n * 8 + i) ≤ t
    · exact ⟨a, b, hN, fun post hp => br_f h ⟨ds_wx hn i8, nm_r ex (br_t l (nm_r (nI_1 i) (aX post hp)))⟩, fun post hp => br_f h ⟨ds_wy hn i8, nm_r ey (br_t l (nm_r (nI_1 i) (aY post hp)))⟩⟩
    · obtain ⟨a', b', hN', bX, bY⟩ := ih (i + 1) (by omega) (nI i) (nI i) (S (n * 8 + i)) (.inr ⟨i, by omega, rfl, rfl, rfl, l⟩)
      rcases hz with ⟨rfl, rfl⟩ | ⟨j, hj, rfl, rfl, rfl, _⟩
      · exact ⟨a', b', hN', fun post hp => br_f h ⟨ds_wx hn i8, nm_r ex (br_f l (br_t rfl (nm_r (nI_1 i) (bX post hp))))⟩, fun post hp => br_f h ⟨ds_wy hn i8, nm_r ey (br_f l (br_t ds_neg (nm_r (nI_1 i) (bY post hp))))⟩⟩
      · have j8 : j < 8 := by omega
        have ej : (8 * nI n + nI j).toNatClampNeg = n * 8 + j := ds_dy hn j8
        by_cases k : S (n * 8 + j) ≤ S (n * 8 + i)
        · refine ⟨a, b, hN, fun post hp => br_f h ⟨ds_wx hn i8, nm_r ex (br_f l (br_f (ds_nn (by omega)) (br_t k (nm_r (nI_1 i) (aX post hp)))))⟩, fun post hp => br_f h ⟨ds_wy hn i8, nm_r ey (br_f l (br_f (nI_pos (by omega)) ⟨ds_wy hn j8, ?_⟩))⟩⟩
          rw [ej]
          exact br_t k (nm_r (nI_1 i) (aY post hp))
        · refine ⟨a', b', hN', fun post hp => br_f h ⟨ds_wx hn i8, nm_r ex (br_f l (br_f (ds_nn (by omega)) (br_f k (nm_r (nI_1 i) (bX post hp)))))⟩, fun post hp => br_f h ⟨ds_wy hn i8, nm_r ey (br_f l (br_f (nI_pos (by omega)) ⟨ds_wy hn j8, ?_⟩))⟩⟩
          rw [ej]
          exact br_f k (nm_r (nI_1 i) (bY post hp))
theorem ds_nx {K B S C : Nat → Int32} {n : Nat} (hn : n < 3) (t : Int32) : ∃ a b : Int32, ds_N S n t a b 8 ∧
    (∀ post : Int32 → Prop, post a → wpX_nextStamped post ((nI m), D, Pa, V, G, M, K, B, S, C) (nI n) t) ∧
    (∀ post : Int32 → Prop, post b → wpY_nextStamped post ((nI m), D, Pb, V, M, K, B, C, S) (nI n) t) := by
  obtain ⟨a, b, hN, aX, aY⟩ := ds_nxL (m := m) (D := D) (Pa := Pa) (Pb := Pb) (V := V) (G := G) (M := M) (K := K) (B := B) (S := S) (C := C) hn t 8 0 (by omega) (-1000000003) (-1) 0 (.inl ⟨rfl, rfl⟩)
  exact ⟨a, b, hN, fun post hp => ⟨_, aX post hp⟩, fun post hp => ⟨_, aY post hp⟩⟩
/-! the turns of copy -/
theorem ds_cpL (T : ds_T m Pa Pb G g) (hM : ds_Z M) {n o : Nat} (hn : n < 3) (ho : o < 3) (hno : n ≠ o) : ∀ e t : Nat, t + e = 8 → ∀ (K B S C : Nat → Int32) (last c x y : Int32), ds_Z K → ds_Z B → ds_O m K B → ds_Q m D K S → ds_ct (fun i => S (n * 8 + i)) last 8 ≤ e → ds_N S n last x y 8 →
    (∀ post : Int32 → Prop, post x → wpX_nextStamped post ((nI m), D, Pa, V, G, M, K, B, S, C) (nI n) last) → ∃ (a : Int32) (u' : SX) (v' : SY), ds_R u' v' ∧
    (∀ post : Int32 → SX → Prop, post a u' → wX_copy_30 post (nI n) (nI o) (e + 1) c last (nI t) (nI m) D Pa V G M K B S C) ∧
    (∀ post : Int32 → SY → Prop, post a v' → wY_copy_34 post (nI n) (nI o) (e + 1) c y (nI m) D Pb V M K B C S) := by
  have hm := T.1
  intro e
  induction e with
  | zero =>
    intro t ht K B S C last c x y hK hB hO hQ hc hN hX
    have h : 8 ≤ nI t := nI_le (a := 8) (by omega) (by omega)
    rcases hN with ⟨rfl, rfl⟩ | ⟨j, hj, _, _, h3⟩
    · exact ⟨c, ((nI m), D, Pa, V, G, M, K, B, S, C), ((nI m), D, Pb, V, M, K, B, C, S), ⟨_, _, _, _, _, _, _, _, _, _, _, g, rfl, rfl, T, hM, hK, hB, hO, hQ⟩, fun _ hp => br_t h hp, fun _ hp => br_t ds_neg hp⟩
    · have := ds_ctp (f := fun i => S (n * 8 + i)) 8 j hj h3
      omega
  | succ e ih =>
    intro t ht K B S C last c x y hK hB hO hQ hc hN hX
    have h : ¬ 8 ≤ nI t := nI_ge (b := 8) (by omega) (by decide)
    rcases hN with ⟨rfl, rfl⟩ | ⟨j, hj, rfl, rfl, h3⟩
    · exact ⟨c, ((nI m), D, Pa, V, G, M, K, B, S, C), ((nI m), D, Pb, V, M, K, B, C, S), ⟨_, _, _, _, _, _, _, _, _, _, _, g, rfl, rfl, T, hM, hK, hB, hO, hQ⟩, fun _ hp => br_f h (hX _ (br_t rfl hp)), fun _ hp => br_t ds_neg hp⟩
    · have hl : last ≤ S (n * 8 + j) := Int32.le_of_lt (Int32.not_le.mp h3)
      have hct : ds_ct (fun i => S (n * 8 + i)) (S (n * 8 + j)) 8 < ds_ct (fun i => S (n * 8 + i)) last 8 := ds_ctl (f := fun i => S (n * 8 + i)) hl 8 j hj h3 (Int32.le_refl _)
      have ex : S (nI n * 8 + nI j).toNatClampNeg = S (n * 8 + j) := by rw [ds_dx hn hj]
      obtain ⟨w, hw, wX, wY⟩ := ds_haL (D := D) (Pa := Pa) (Pb := Pb) (V := V) (G := G) (M := M) (B := B) (S := S) (C := C) (q := j) hm hK hn ho m 0 (by omega)
      rcases hw with rfl | ⟨rfl, hw⟩
      · obtain ⟨x', y', hN', nX, nY⟩ := ds_nx (m := m) (D := D) (Pa := Pa) (Pb := Pb) (V := V) (G := G) (M := M) (K := K) (B := B) (S := S) (C := C) hn (S (n * 8 + j))
        obtain ⟨a, u', v', hR, aX, aY⟩ := ih (t + 1) (by omega) K B S C (S (n * 8 + j)) c x' y' hK hB hO hQ (by omega) hN' nX
        refine ⟨a, u', v', hR, fun post hp => br_f h (hX _ (br_f (ds_nn (by omega)) ⟨ds_wx hn hj, nm_r ex ⟨_, wX _ (br_t rfl (nm_r (nI_1 t) (aX post hp)))⟩⟩)), fun post hp => br_f (nI_pos (by omega)) ⟨_, wY _ (br_t rfl ⟨ds_wy hn hj, ?_⟩)⟩⟩
        rw [ds_dy hn hj]
        exact nY _ (aY post hp)
      · obtain ⟨K', B', h1, h2, h3', h4, h5, cX, cY⟩ := ds_cdL (D := D) (V := V) (M := M) (S := S) (C := C) T hn ho hj m 0 (by omega) K B hK hB hO
        have hQ' : ds_Q m D K' (upd S (o * 8 + j) (upd C o (C o + 1) o)) := by
          obtain ⟨r, r1, r2, r3⟩ := hw
          exact ds_Qg hQ h4 hj ⟨r, r1, r2, h5 r (by omega) r1 r2 r3⟩ _
        have hS : ∀ i, i < 8 → upd S (o * 8 + j) (upd C o (C o + 1) o) (n * 8 + i) = S (n * 8 + i) := fun i hi => ds_un (by omega)
        obtain ⟨x', y', hN', nX, nY⟩ := ds_nx (m := m) (D := D) (Pa := Pa) (Pb := Pb) (V := V) (G := G) (M := M) (K := K') (B := B') (S := upd S (o * 8 + j) (upd C o (C o + 1) o)) (C := upd C o (C o + 1)) hn (S (n * 8 + j))
        have hct' : ds_ct (fun i => upd S (o * 8 + j) (upd C o (C o + 1) o) (n * 8 + i)) (S (n * 8 + j)) 8 ≤ e := by
          rw [ds_ctc (f' := fun i => S (n * 8 + i)) 8 hS]
          omega
        obtain ⟨a, u', v', hR, aX, aY⟩ := ih (t + 1) (by omega) K' B' _ _ (S (n * 8 + j)) (c + 1) x' y' h1 h2 h3' hQ' hct' hN' nX
        refine ⟨a, u', v', hR, fun post hp => br_f h (hX _ (br_f (ds_nn (by omega)) ⟨ds_wx hn hj, nm_r ex ⟨_, wX _ (br_f ds_10 ⟨_, cX _ (nm_e (nm_r (nI_1 t) (aX post hp)))⟩)⟩⟩)), fun post hp => br_f (nI_pos (by omega)) ⟨_, wY _ (br_f ds_10 ⟨_, cY _ (nm_e ⟨ds_wy hn hj, ?_⟩)⟩)⟩⟩
        rw [ds_dy hn hj, hS j hj]
        exact nY _ (aY post hp)
end
end
section
/-! what is owed -/
def i_Rel (k : Nat) (u : SX) (v : SY) : Prop := ds_R u v
theorem i_up {k : Nat} {u : SX} {v : SY} (h : i_Rel k u v) : i_Rel (k + 5) u v := h
theorem i_vc0 : wpX_init (fun u => wpY_init (fun v => i_Rel 0 u v)) := by
  refine ⟨0, fun _ => 0, fun _ => 0, fun _ => 0, fun _ => 0, fun _ => 0, fun _ => 0, fun _ => 0, fun _ => 0, fun _ => 0, fun _ => 0, fun _ => 0, rfl, rfl, ⟨by omega, fun r hr => by omega⟩, fun _ => .inl rfl, fun _ => .inl rfl, fun _ => .inl rfl, fun _ _ _ _ _ => ⟨rfl, rfl⟩, fun s d _ _ h => absurd rfl h⟩
theorem ds_im (p : Int32) {m : Nat} (hm : m ≤ 80) : p < 0 ∨ (¬ p < 0 ∧ nI m ≤ p) ∨ ∃ j, j < m ∧ p = nI j := by
  by_cases h : p < 0
  · exact .inl h
  · obtain ⟨j, hj, rfl⟩ := nI_of h
    by_cases h2 : j < m
    · exact .inr (.inr ⟨j, h2, rfl⟩)
    · exact .inr (.inl ⟨h, nI_le (by omega) hj⟩)
theorem i_vc_edit {k : Nat} {u : SX} {v : SY} (I : i_Rel k u v) (hk : k + 5 ≤ 2560) (v1 : Int32) (v2 : Int32) (v3 : Int32) : wpX_edit (fun r u' => wpY_edit (fun r' v' => r' = r ∧ i_Rel (k + 5) u' v') v v1 v2 v3) u v1 v2 v3 := by
  have J : i_Rel (k + 5) u v := I
  obtain ⟨m, D, Pa, Pb, V, G, M, K, B, C, S, g, rfl, rfl, T, hM, hK, hB, hO, hQ⟩ := I
  rcases ds_ar v1 v2 with ⟨n, d, hn, hd, rfl, rfl⟩ | ⟨bX, bY⟩
  · obtain ⟨w, hw, wX, wY⟩ := ds_wi (D := D) (V := V) (B := B) (C := C) (S := S) T hM hK hn (nI d)
    rcases hw with rfl | ⟨j, hj, rfl⟩
    · obtain ⟨r, ⟨u1, u2, u3, u4, u5, u6, u7, u8, u9, u10⟩, ⟨w1, w2, w3, w4, w5, w6, w7, w8, w9⟩, hR, mX, mY⟩ := ds_mk (V := V) (C := C) T hM hK hB hO hQ hn hd (k := 0) v3 (.inl rfl) (.inl ⟨rfl, rfl⟩)
      unfold wpX_edit
      refine ds_okX hn hd (wX _ (mX _ ?_))
      unfold wpY_edit
      refine ds_okY hn hd (wY _ (br_t rfl ?_))
      unfold wY_edit_36
      exact mY _ ⟨rfl, hR⟩
    · obtain ⟨r, ⟨u1, u2, u3, u4, u5, u6, u7, u8, u9, u10⟩, ⟨w1, w2, w3, w4, w5, w6, w7, w8, w9⟩, hR, mX, mY⟩ := ds_mk (V := V) (C := C) T hM hK hB hO hQ hn hd (k := 0) v3 (.inl rfl) (.inr ⟨j, hj, rfl, rfl⟩)
      have hm := T.1
      unfold wpX_edit
      refine ds_okX hn hd (wX _ (mX _ ?_))
      unfold wpY_edit
      refine ds_okY hn hd (wY _ (br_f (ds_nn (by omega)) ?_))
      unfold wY_edit_36
      exact mY _ ⟨rfl, hR⟩
  · unfold wpX_edit
    refine bX _ _ ?_
    unfold wpY_edit
    exact bY _ _ _ ⟨rfl, J⟩
theorem i_vc_editLeaf {k : Nat} {u : SX} {v : SY} (I : i_Rel k u v) (hk : k + 5 ≤ 2560) (v1 : Int32) (v2 : Int32) (v3 : Int32) (v4 : Int32) : wpX_editLeaf (fun r u' => wpY_editLeaf (fun r' v' => r' = r ∧ i_Rel (k + 5) u' v') v v1 v2 v3 v4) u v1 v2 v3 v4 := by
  have J : i_Rel (k + 5) u v := I
  obtain ⟨m, D, Pa, Pb, V, G, M, K, B, C, S, g, rfl, rfl, T, hM, hK, hB, hO, hQ⟩ := I
  rcases ds_ar v1 v2 with ⟨n, d, hn, hd, rfl, rfl⟩ | ⟨bX, bY⟩
  · obtain ⟨w, hw, wX, wY⟩ := ds_at (D := D) (V := V) (M := M) (B := B) (C := C) (S := S) T hK hn (nI d) v3
    rcases hw with rfl | ⟨j, hj, rfl⟩
    · unfold wpX_editLeaf
      refine ds_okX hn hd (wX _ (br_t rfl ?_))
      unfold wpY_editLeaf
      exact ds_okY hn hd (wY _ (br_t rfl ⟨rfl, J⟩))
    · obtain ⟨r, ⟨u1, u2, u3, u4, u5, u6, u7, u8, u9, u10⟩, ⟨w1, w2, w3, w4, w5, w6, w7, w8, w9⟩, hR, mX, mY⟩ := ds_mk (V := V) (C := C) T hM hK hB hO hQ hn hd (k := 0) v4 (.inl rfl) (.inr ⟨j, hj, rfl, rfl⟩)
      have hm := T.1
      unfold wpX_editLeaf
      refine ds_okX hn hd (wX _ (br_f (ds_nn (by omega)) (mX _ ?_)))
      unfold wpY_editLeaf
      exact ds_okY hn hd (wY _ (br_f (ds_nn (by omega)) (mY _ ⟨rfl, hR⟩)))
  · unfold wpX_editLeaf
    refine bX _ _ ?_
    unfold wpY_editLeaf
    exact bY _ _ _ ⟨rfl, J⟩
theorem i_vc_delete {k : Nat} {u : SX} {v : SY} (I : i_Rel k u v) (hk : k + 5 ≤ 2560) (v1 : Int32) (v2 : Int32) (v3 : Int32) : wpX_delete (fun r u' => wpY_delete (fun r' v' => r' = r ∧ i_Rel (k + 5) u' v') v v1 v2 v3) u v1 v2 v3 := by
  have J : i_Rel (k + 5) u v := I
  obtain ⟨m, D, Pa, Pb, V, G, M, K, B, C, S, g, rfl, rfl, T, hM, hK, hB, hO, hQ⟩ := I
  rcases ds_ar v1 v2 with ⟨n, d, hn, hd, rfl, rfl⟩ | ⟨bX, bY⟩
  · obtain ⟨w, hw, wX, wY⟩ := ds_at (D := D) (V := V) (M := M) (B := B) (C := C) (S := S) T hK hn (nI d) v3
    rcases hw with rfl | ⟨j, hj, rfl⟩
    · unfold wpX_delete
      refine ds_okX hn hd (wX _ (br_t rfl ?_))
      unfold wpY_delete
      exact ds_okY hn hd (wY _ (br_t rfl ⟨rfl, J⟩))
    · have hm := T.1
      have j8 : j < 80 := by omega
      by_cases z : M j = 0
      · obtain ⟨r, ⟨u1, u2, u3, u4, u5, u6, u7, u8, u9, u10⟩, ⟨w1, w2, w3, w4, w5, w6, w7, w8, w9⟩, hR, mX, mY⟩ := ds_mk (V := V) (C := C) T hM hK hB hO hQ hn hd (k := 1) 0 (.inr rfl) (.inr ⟨j, hj, rfl, rfl⟩)
        unfold wpX_delete
        refine ds_okX hn hd (wX _ (br_f (ds_nn j8) ⟨ds_v j8, ds_bt (ds_c j8) z (mX _ ?_)⟩))
        unfold wpY_delete
        exact ds_okY hn hd (wY _ (br_f (ds_nn j8) ⟨ds_v j8, ds_bt (ds_c j8) z (mY _ ⟨rfl, hR⟩)⟩))
      · unfold wpX_delete
        refine ds_okX hn hd (wX _ (br_f (ds_nn j8) ⟨ds_v j8, ds_bf (ds_c j8) z ?_⟩))
        unfold wpY_delete
        exact ds_okY hn hd (wY _ (br_f (ds_nn j8) ⟨ds_v j8, ds_bf (ds_c j8) z ⟨rfl, J⟩⟩))
  · unfold wpX_delete
    refine bX _ _ ?_
    unfold wpY_delete
    exact bY _ _ _ ⟨rfl, J⟩
theorem i_vc_copy {k : Nat} {u : SX} {v : SY} (I : i_Rel k u v) (hk : k + 5 ≤ 2560) (v1 : Int32) (v2 : Int32) : wpX_copy (fun r u' => wpY_copy (fun r' v' => r' = r ∧ i_Rel (k + 5) u' v') v v1 v2) u v1 v2 := by
  have J : i_Rel (k + 5) u v := I
  obtain ⟨m, D, Pa, Pb, V, G, M, K, B, C, S, g, rfl, rfl, T, hM, hK, hB, hO, hQ⟩ := I
  unfold wpX_copy
  rcases ds_st v1 with ⟨n, hn, rfl⟩ | ⟨bX, bY⟩
  · rcases ds_st v2 with ⟨o, ho, rfl⟩ | ⟨bX, bY⟩
    · by_cases e : n = o
      · subst e
        refine ds_sX hn (ds_sX hn (br_t rfl ?_))
        unfold wpY_copy
        exact ds_sY hn (ds_sY hn (br_t rfl ⟨rfl, J⟩))
      · have e' : ¬ nI n = nI o := fun z => e (ds_nI (by omega) (by omega) z)
        obtain ⟨x, y, hN, nX, nY⟩ := ds_nx (m := m) (D := D) (Pa := Pa) (Pb := Pb) (V := V) (G := G) (M := M) (K := K) (B := B) (S := S) (C := C) hn 0
        obtain ⟨a, u', v', hR, aX, aY⟩ := ds_cpL (D := D) (V := V) T hM hn ho e 8 0 (by omega) K B S C 0 0 x y hK hB hO hQ (ds_ct8 _ _ _) hN nX
        refine ds_sX hn (ds_sX ho (br_f e' ⟨_, aX _ ?_⟩))
        unfold wpY_copy
        exact ds_sY hn (ds_sY ho (br_f e' (nY _ ⟨_, aY _ ⟨rfl, hR⟩⟩)))
    · refine ds_sX hn (bX _ (br_t rfl ?_))
      unfold wpY_copy
      exact ds_sY hn (bY _ _ (br_t rfl ⟨rfl, J⟩))
  · refine bX _ (br_t rfl ?_)
    unfold wpY_copy
    exact bY _ _ (br_t rfl ⟨rfl, J⟩)
theorem i_vc_compact {k : Nat} {u : SX} {v : SY} (I : i_Rel k u v) (hk : k + 5 ≤ 2560) (v1 : Int32) : wpX_compact (fun r u' => wpY_compact (fun r' v' => r' = r ∧ i_Rel (k + 5) u' v') v v1) u v1 := by
  have J : i_Rel (k + 5) u v := I
  obtain ⟨m, D, Pa, Pb, V, G, M, K, B, C, S, g, rfl, rfl, T, hM, hK, hB, hO, hQ⟩ := I
  unfold wpX_compact
  rcases ds_st v1 with ⟨n, hn, rfl⟩ | ⟨bX, bY⟩
  · obtain ⟨a, B', h1, h2, aX, aY⟩ := ds_coL (D := D) (V := V) (M := M) (S := S) (C := C) T hK hn m 0 (by omega) B 0 hB hO
    refine ds_sX hn ⟨_, aX _ ?_⟩
    unfold wpY_compact
    exact ds_sY hn ⟨_, aY _ ⟨rfl, _, _, _, _, _, _, _, _, _, _, _, g, rfl, rfl, T, hM, hK, h1, h2, hQ⟩⟩
  · refine bX _ (br_t rfl ?_)
    unfold wpY_compact
    exact bY _ _ (br_t rfl ⟨rfl, J⟩)
theorem i_vc_purge {k : Nat} {u : SX} {v : SY} (I : i_Rel k u v) (hk : k + 5 ≤ 2560) (v1 : Int32) (v2 : Int32) : wpX_purge (fun r u' => wpY_purge (fun r' v' => r' = r ∧ i_Rel (k + 5) u' v') v v1 v2) u v1 v2 := by
  have J : i_Rel (k + 5) u v := I
  obtain ⟨m, D, Pa, Pb, V, G, M, K, B, C, S, g, rfl, rfl, T, hM, hK, hB, hO, hQ⟩ := I
  unfold wpX_purge
  rcases ds_ar v1 v2 with ⟨n, d, hn, hd, rfl, rfl⟩ | ⟨bX, bY⟩
  · obtain ⟨a, u', v', hR, aX, aY⟩ := ds_pu (V := V) (C := C) T hM hK hB hO hQ hn hd
    refine ds_okX hn hd ⟨_, aX _ ?_⟩
    unfold wpY_purge
    exact ds_okY hn hd ⟨_, aY _ ⟨rfl, hR⟩⟩
  · refine bX _ _ ?_
    unfold wpY_purge
    exact bY _ _ _ ⟨rfl, J⟩
theorem i_vc_revisions {k : Nat} {u : SX} {v : SY} (I : i_Rel k u v) (hk : k + 5 ≤ 2560) : wpX_revisions (fun r => wpY_revisions (fun r' => r' = r ∧ i_Rel (k + 5) u v) v) u := by
  have J : i_Rel (k + 5) u v := I
  obtain ⟨m, D, Pa, Pb, V, G, M, K, B, C, S, g, rfl, rfl, T, hM, hK, hB, hO, hQ⟩ := I
  exact ⟨rfl, J⟩
theorem i_vc_revision {k : Nat} {u : SX} {v : SY} (I : i_Rel k u v) (hk : k + 5 ≤ 2560) (v1 : Int32) (v2 : Int32) : wpX_revision (fun r => wpY_revision (fun r' => r' = r ∧ i_Rel (k + 5) u v) v v1 v2) u v1 v2 := by
  have J : i_Rel (k + 5) u v := I
  obtain ⟨m, D, Pa, Pb, V, G, M, K, B, C, S, g, rfl, rfl, T, hM, hK, hB, hO, hQ⟩ := I
  have hm := T.1
  by_cases h0 : v2 < 0
  · exact br_t h0 (br_t h0 ⟨rfl, J⟩)
  · by_cases h3 : v2 ≤ 3
    · rcases ds_im v1 hm with h | ⟨h, h'⟩ | ⟨r, hr, rfl⟩
      · exact br_f h0 (br_t h3 (br_t h (br_t rfl (br_f h0 (br_t h3 (br_t h ⟨rfl, J⟩))))))
      · exact br_f h0 (br_t h3 (br_f h (br_t h' (br_t rfl (br_f h0 (br_t h3 (br_f h (br_f (Int32.not_lt.mpr h') ⟨rfl, J⟩))))))))
      · have r8 : r < 80 := by omega
        obtain ⟨w, hw, rfl⟩ := nI_of2 (M := 3) (n := 3) (by decide) h0 h3
        have c0 : ¬ nI r < 0 := nI_pos (by omega)
        have c1 : ¬ nI m ≤ nI r := nI_ge hr (by omega)
        have c2 : nI r < nI m := nI_lt hr (by omega)
        have hY : ∀ post : Int32 → Prop, ((2 ≤ nI w → ((nI w = 2 → wpY_generation (fun r_9 => post r_9) ((nI m), D, Pb, V, M, K, B, C, S) (nI r)) ∧ (¬ nI w = 2 → (vp_in (nI r) 80 ∧ ((M (nI r).toNatClampNeg = 0 → post 0) ∧ (¬ M (nI r).toNatClampNeg = 0 → post 1)))))) ∧
            (¬ 2 ≤ nI w → ((nI w = 0 → (vp_in (nI r) 80 ∧ post (D (nI r).toNatClampNeg))) ∧ (¬ nI w = 0 → (vp_in (nI r) 80 ∧ ((0 ≤ Pb (nI r).toNatClampNeg → (vp_in (nI r) 80 ∧ post (Pb (nI r).toNatClampNeg))) ∧ (¬ 0 ≤ Pb (nI r).toNatClampNeg → post (-1000000003)))))))) → wpY_revision post ((nI m), D, Pb, V, M, K, B, C, S) (nI r) (nI w) :=
          fun post H => br_f h0 (br_t h3 (br_f c0 (br_t c2 H)))
        obtain ⟨g1, g2, g3, g4⟩ := T.2 r hr
        obtain rfl | rfl | rfl | rfl : w = 0 ∨ w = 1 ∨ w = 2 ∨ w = 3 := by omega
        · exact br_f h0 (br_t h3 (br_f c0 (br_f c1 (br_f ds_10 (br_f h0 (br_f (by decide) (br_t (by decide) ⟨ds_v r8, hY _ (br_f (by decide) (br_t (by decide) ⟨ds_v r8, rfl, J⟩))⟩)))))))
        · refine br_f h0 (br_t h3 (br_f c0 (br_f c1 (br_f ds_10 (br_f h0 (br_f (by decide) (br_f (by decide) (br_t (by decide) ⟨ds_v r8, hY _ (br_f (by decide) (br_f (by decide) ⟨ds_v r8, ?_⟩))⟩))))))))
          rw [ds_c r8]
          rcases g4 with ⟨p1, p2, _⟩ | ⟨q, hq, p1, p2, _⟩
          · rw [p1, p2]
            exact br_f (by decide) ⟨rfl, J⟩
          · rw [p1, p2]
            exact br_t (nI_pos' (by omega)) ⟨ds_v r8, rfl, J⟩
        · refine br_f h0 (br_t h3 (br_f c0 (br_f c1 (br_f ds_10 (br_f h0 (br_f (by decide) (br_f (by decide) (br_f (by decide) (br_t (by decide) ⟨ds_v r8, hY _ (br_t (by decide) (br_t (by decide) (ds_ge T hr ⟨?_, J⟩)))⟩)))))))))
          rw [ds_c r8, g3]
        · by_cases z : M (nI r).toNatClampNeg = 0
          · exact br_f h0 (br_t h3 (br_f c0 (br_f c1 (br_f ds_10 (br_f h0 (br_t (by decide) ⟨ds_v r8, br_t z (hY _ (br_t (by decide) (br_f (by decide) ⟨ds_v r8, br_t z ⟨rfl, J⟩⟩)))⟩))))))
          · exact br_f h0 (br_t h3 (br_f c0 (br_f c1 (br_f ds_10 (br_f h0 (br_t (by decide) ⟨ds_v r8, br_f z (hY _ (br_t (by decide) (br_f (by decide) ⟨ds_v r8, br_f z ⟨rfl, J⟩⟩)))⟩))))))
    · exact br_f h0 (br_f h3 (br_f h0 (br_f h3 ⟨rfl, J⟩)))
theorem i_vc_knows {k : Nat} {u : SX} {v : SY} (I : i_Rel k u v) (hk : k + 5 ≤ 2560) (v1 : Int32) (v2 : Int32) : wpX_knows (fun r => wpY_knows (fun r' => r' = r ∧ i_Rel (k + 5) u v) v v1 v2) u v1 v2 := by
  have J : i_Rel (k + 5) u v := I
  obtain ⟨m, D, Pa, Pb, V, G, M, K, B, C, S, g, rfl, rfl, T, hM, hK, hB, hO, hQ⟩ := I
  have hm := T.1
  unfold wpX_knows
  rcases ds_st v1 with ⟨n, hn, rfl⟩ | ⟨bX, bY⟩
  · refine ds_sX hn ?_
    have hY : ∀ post : Int32 → Prop, ((v2 < 0 → post 0) ∧ (¬ v2 < 0 → ((nI m ≤ v2 → post 0) ∧ (¬ nI m ≤ v2 → wpY_knowsIt (fun r_14 => (r_14 = 0 → post 0) ∧ (¬ r_14 = 0 → post 1)) ((nI m), D, Pb, V, M, K, B, C, S) (nI n) v2)))) → wpY_knows post ((nI m), D, Pb, V, M, K, B, C, S) (nI n) v2 := by
      intro post H
      unfold wpY_knows
      exact ds_sY hn H
    rcases ds_im v2 hm with h | ⟨h, h'⟩ | ⟨r, hr, rfl⟩
    · exact br_t h (br_t rfl (hY _ (br_t h ⟨rfl, J⟩)))
    · exact br_f h (br_t h' (br_t rfl (hY _ (br_f h (br_t h' ⟨rfl, J⟩)))))
    · have r8 : r < 80 := by omega
      have c0 : ¬ nI r < 0 := nI_pos (by omega)
      have c1 : ¬ nI m ≤ nI r := nI_ge hr (by omega)
      by_cases z : K (n * 80 + r) = 0
      · exact br_f c0 (br_f c1 (br_f ds_10 ⟨ds_vx hn r8, ds_bt (ds_cx hn r8) z (hY _ (br_f c0 (br_f c1 (ds_kn hK hn r8 (br_t z ⟨rfl, J⟩)))))⟩))
      · exact br_f c0 (br_f c1 (br_f ds_10 ⟨ds_vx hn r8, ds_bf (ds_cx hn r8) z (hY _ (br_f c0 (br_f c1 (ds_kn hK hn r8 (br_f z ⟨rfl, J⟩)))))⟩))
  · refine bX _ (br_t rfl ?_)
    unfold wpY_knows
    exact bY _ _ (br_t rfl ⟨rfl, J⟩)
theorem i_vc_body {k : Nat} {u : SX} {v : SY} (I : i_Rel k u v) (hk : k + 5 ≤ 2560) (v1 : Int32) (v2 : Int32) : wpX_body (fun r => wpY_body (fun r' => r' = r ∧ i_Rel (k + 5) u v) v v1 v2) u v1 v2 := by
  have J : i_Rel (k + 5) u v := I
  obtain ⟨m, D, Pa, Pb, V, G, M, K, B, C, S, g, rfl, rfl, T, hM, hK, hB, hO, hQ⟩ := I
  have hm := T.1
  unfold wpX_body
  rcases ds_st v1 with ⟨n, hn, rfl⟩ | ⟨bX, bY⟩
  · refine ds_sX hn ?_
    have hY : ∀ post : Int32 → Prop, ((v2 < 0 → post (-1000000003)) ∧ (¬ v2 < 0 → ((nI m ≤ v2 → post (-1000000003)) ∧ (¬ nI m ≤ v2 → wpY_knowsIt (fun r_14 => (r_14 = 0 → post (-1000000003)) ∧ (¬ r_14 = 0 → (vp_in (80 * nI n + v2) 240 ∧ ((B (80 * nI n + v2).toNatClampNeg = 0 → post (-1000000004)) ∧ (¬ B (80 * nI n + v2).toNatClampNeg = 0 → (vp_in v2 80 ∧ post (V v2.toNatClampNeg))))))) ((nI m), D, Pb, V, M, K, B, C, S) (nI n) v2)))) → wpY_body post ((nI m), D, Pb, V, M, K, B, C, S) (nI n) v2 := by
      intro post H
      unfold wpY_body
      exact ds_sY hn H
    rcases ds_im v2 hm with h | ⟨h, h'⟩ | ⟨r, hr, rfl⟩
    · exact br_t h (br_t rfl (hY _ (br_t h ⟨rfl, J⟩)))
    · exact br_f h (br_t h' (br_t rfl (hY _ (br_f h (br_t h' ⟨rfl, J⟩)))))
    · have r8 : r < 80 := by omega
      have c0 : ¬ nI r < 0 := nI_pos (by omega)
      have c1 : ¬ nI m ≤ nI r := nI_ge hr (by omega)
      by_cases z : K (n * 80 + r) = 0
      · exact br_f c0 (br_f c1 (br_f ds_10 ⟨ds_vx hn r8, ds_bt (ds_cx hn r8) z (hY _ (br_f c0 (br_f c1 (ds_kn hK hn r8 (br_t z ⟨rfl, J⟩)))))⟩))
      · by_cases y : B (n * 80 + r) = 0
        · exact br_f c0 (br_f c1 (br_f ds_10 ⟨ds_vx hn r8, ds_bf (ds_cx hn r8) z ⟨ds_vx hn r8, ds_bt (ds_cx hn r8) y (hY _ (br_f c0 (br_f c1 (ds_kn hK hn r8 (br_f z ⟨ds_vy hn r8, ds_bt (ds_cy hn r8) y ⟨rfl, J⟩⟩)))))⟩⟩))
        · exact br_f c0 (br_f c1 (br_f ds_10 ⟨ds_vx hn r8, ds_bf (ds_cx hn r8) z ⟨ds_vx hn r8, ds_bf (ds_cx hn r8) y ⟨ds_v r8, hY _ (br_f c0 (br_f c1 (ds_kn hK hn r8 (br_f z ⟨ds_vy hn r8, ds_bf (ds_cy hn r8) y ⟨ds_v r8, rfl, J⟩⟩))))⟩⟩⟩))
  · refine bX _ (br_t rfl ?_)
    unfold wpY_body
    exact bY _ _ (br_t rfl ⟨rfl, J⟩)
theorem i_vc_winner {k : Nat} {u : SX} {v : SY} (I : i_Rel k u v) (hk : k + 5 ≤ 2560) (v1 : Int32) (v2 : Int32) : wpX_winner (fun r => wpY_winner (fun r' => r' = r ∧ i_Rel (k + 5) u v) v v1 v2) u v1 v2 := by
  have J : i_Rel (k + 5) u v := I
  obtain ⟨m, D, Pa, Pb, V, G, M, K, B, C, S, g, rfl, rfl, T, hM, hK, hB, hO, hQ⟩ := I
  unfold wpX_winner
  rcases ds_ar v1 v2 with ⟨n, d, hn, hd, rfl, rfl⟩ | ⟨bX, bY⟩
  · obtain ⟨w, hw, wX, wY⟩ := ds_wi (D := D) (V := V) (B := B) (C := C) (S := S) T hM hK hn (nI d)
    refine ds_okX hn hd (wX _ ?_)
    unfold wpY_winner
    exact ds_okY hn hd (wY _ ⟨rfl, J⟩)
  · refine bX _ _ ?_
    unfold wpY_winner
    exact bY _ _ _ ⟨rfl, J⟩
theorem i_vc_leaves {k : Nat} {u : SX} {v : SY} (I : i_Rel k u v) (hk : k + 5 ≤ 2560) (v1 : Int32) (v2 : Int32) : wpX_leaves (fun r => wpY_leaves (fun r' => r' = r ∧ i_Rel (k + 5) u v) v v1 v2) u v1 v2 := by
  have J : i_Rel (k + 5) u v := I
  obtain ⟨m, D, Pa, Pb, V, G, M, K, B, C, S, g, rfl, rfl, T, hM, hK, hB, hO, hQ⟩ := I
  unfold wpX_leaves
  rcases ds_ar v1 v2 with ⟨n, d, hn, hd, rfl, rfl⟩ | ⟨bX, bY⟩
  · obtain ⟨w, wX, wY⟩ := ds_lnL (D := D) (V := V) (M := M) (B := B) (C := C) (S := S) T hK hn (nI d) m 0 (by omega) 0
    refine ds_okX hn hd ⟨_, wX _ ?_⟩
    unfold wpY_leaves
    exact ds_okY hn hd ⟨_, wY _ ⟨rfl, J⟩⟩
  · refine bX _ _ ?_
    unfold wpY_leaves
    exact bY _ _ _ ⟨rfl, J⟩
theorem i_vc_leaf {k : Nat} {u : SX} {v : SY} (I : i_Rel k u v) (hk : k + 5 ≤ 2560) (v1 : Int32) (v2 : Int32) (v3 : Int32) : wpX_leaf (fun r => wpY_leaf (fun r' => r' = r ∧ i_Rel (k + 5) u v) v v1 v2 v3) u v1 v2 v3 := by
  have J : i_Rel (k + 5) u v := I
  obtain ⟨m, D, Pa, Pb, V, G, M, K, B, C, S, g, rfl, rfl, T, hM, hK, hB, hO, hQ⟩ := I
  unfold wpX_leaf
  rcases ds_ar v1 v2 with ⟨n, d, hn, hd, rfl, rfl⟩ | ⟨bX, bY⟩
  · obtain ⟨w, hw, wX, wY⟩ := ds_at (D := D) (V := V) (M := M) (B := B) (C := C) (S := S) T hK hn (nI d) v3
    refine ds_okX hn hd (wX _ ?_)
    unfold wpY_leaf
    exact ds_okY hn hd (wY _ ⟨rfl, J⟩)
  · refine bX _ _ ?_
    unfold wpY_leaf
    exact bY _ _ _ ⟨rfl, J⟩
theorem i_vc_conflicts {k : Nat} {u : SX} {v : SY} (I : i_Rel k u v) (hk : k + 5 ≤ 2560) (v1 : Int32) : wpX_conflicts (fun r => wpY_conflicts (fun r' => r' = r ∧ i_Rel (k + 5) u v) v v1) u v1 := by
  have J : i_Rel (k + 5) u v := I
  obtain ⟨m, D, Pa, Pb, V, G, M, K, B, C, S, g, rfl, rfl, T, hM, hK, hB, hO, hQ⟩ := I
  unfold wpX_conflicts
  rcases ds_st v1 with ⟨n, hn, rfl⟩ | ⟨bX, bY⟩
  · obtain ⟨w, wX, wY⟩ := ds_cfL (D := D) (V := V) (M := M) (B := B) (C := C) (S := S) T hK hn 8 0 (by omega) 0
    refine ds_sX hn ⟨_, wX _ ?_⟩
    unfold wpY_conflicts
    exact ds_sY hn ⟨_, wY _ ⟨rfl, J⟩⟩
  · refine bX _ (br_t rfl ?_)
    unfold wpY_conflicts
    exact bY _ _ (br_t rfl ⟨rfl, J⟩)
theorem i_vc_count {k : Nat} {u : SX} {v : SY} (I : i_Rel k u v) (hk : k + 5 ≤ 2560) (v1 : Int32) : wpX_count (fun r => wpY_count (fun r' => r' = r ∧ i_Rel (k + 5) u v) v v1) u v1 := by
  have J : i_Rel (k + 5) u v := I
  obtain ⟨m, D, Pa, Pb, V, G, M, K, B, C, S, g, rfl, rfl, T, hM, hK, hB, hO, hQ⟩ := I
  unfold wpX_count
  rcases ds_st v1 with ⟨n, hn, rfl⟩ | ⟨bX, bY⟩
  · refine ds_sX hn ⟨ds_w hn, ?_⟩
    unfold wpY_count
    exact ds_sY hn ⟨ds_w hn, rfl, J⟩
  · refine bX _ (br_t rfl ?_)
    unfold wpY_count
    exact bY _ _ (br_t rfl ⟨rfl, J⟩)
theorem i_vc_stamp {k : Nat} {u : SX} {v : SY} (I : i_Rel k u v) (hk : k + 5 ≤ 2560) (v1 : Int32) (v2 : Int32) : wpX_stamp (fun r => wpY_stamp (fun r' => r' = r ∧ i_Rel (k + 5) u v) v v1 v2) u v1 v2 := by
  have J : i_Rel (k + 5) u v := I
  obtain ⟨m, D, Pa, Pb, V, G, M, K, B, C, S, g, rfl, rfl, T, hM, hK, hB, hO, hQ⟩ := I
  unfold wpX_stamp
  rcases ds_ar v1 v2 with ⟨n, d, hn, hd, rfl, rfl⟩ | ⟨bX, bY⟩
  · refine ds_okX hn hd ⟨ds_wx hn hd, ?_⟩
    unfold wpY_stamp
    exact ds_okY hn hd ⟨ds_wy hn hd, by rw [ds_dx hn hd, ds_dy hn hd], J⟩
  · refine bX _ _ ?_
    unfold wpY_stamp
    exact bY _ _ _ ⟨rfl, J⟩
theorem i_vc_size {k : Nat} {u : SX} {v : SY} (I : i_Rel k u v) (hk : k + 5 ≤ 2560) (v1 : Int32) : wpX_size (fun r => wpY_size (fun r' => r' = r ∧ i_Rel (k + 5) u v) v v1) u v1 := by
  have J : i_Rel (k + 5) u v := I
  obtain ⟨m, D, Pa, Pb, V, G, M, K, B, C, S, g, rfl, rfl, T, hM, hK, hB, hO, hQ⟩ := I
  unfold wpX_size
  rcases ds_st v1 with ⟨n, hn, rfl⟩ | ⟨bX, bY⟩
  · obtain ⟨w, wX, wY⟩ := ds_siL (D := D) (V := V) (B := B) (C := C) (S := S) T hM hK hn 8 0 (by omega) 0
    refine ds_sX hn ⟨_, wX _ ?_⟩
    unfold wpY_size
    exact ds_sY hn ⟨_, wY _ ⟨rfl, J⟩⟩
  · refine bX _ (br_t rfl ?_)
    unfold wpY_size
    exact bY _ _ (br_t rfl ⟨rfl, J⟩)
theorem i_vc_viewed {k : Nat} {u : SX} {v : SY} (I : i_Rel k u v) (hk : k + 5 ≤ 2560) (v1 : Int32) (v2 : Int32) : wpX_viewed (fun r => wpY_viewed (fun r' => r' = r ∧ i_Rel (k + 5) u v) v v1 v2) u v1 v2 := by
  have J : i_Rel (k + 5) u v := I
  obtain ⟨m, D, Pa, Pb, V, G, M, K, B, C, S, g, rfl, rfl, T, hM, hK, hB, hO, hQ⟩ := I
  unfold wpX_viewed
  rcases ds_st v1 with ⟨n, hn, rfl⟩ | ⟨bX, bY⟩
  · obtain ⟨w, wX, wY⟩ := ds_vwL (D := D) (V := V) (B := B) (C := C) (S := S) T hM hK hn v2 8 0 (by omega)
    refine ds_sX hn ⟨_, wX _ ?_⟩
    unfold wpY_viewed
    exact ds_sY hn ⟨_, wY _ ⟨rfl, J⟩⟩
  · refine bX _ (br_t rfl ?_)
    unfold wpY_viewed
    exact bY _ _ (br_t rfl ⟨rfl, J⟩)
theorem i_vc_below {k : Nat} {u : SX} {v : SY} (I : i_Rel k u v) (hk : k + 5 ≤ 2560) (v1 : Int32) (v2 : Int32) : wpX_below (fun r => wpY_below (fun r' => r' = r ∧ i_Rel (k + 5) u v) v v1 v2) u v1 v2 := by
  have J : i_Rel (k + 5) u v := I
  obtain ⟨m, D, Pa, Pb, V, G, M, K, B, C, S, g, rfl, rfl, T, hM, hK, hB, hO, hQ⟩ := I
  unfold wpX_below
  rcases ds_st v1 with ⟨n, hn, rfl⟩ | ⟨bX, bY⟩
  · obtain ⟨w, wX, wY⟩ := ds_beL (D := D) (V := V) (B := B) (C := C) (S := S) T hM hK hn v2 8 0 (by omega) 0
    refine ds_sX hn ⟨_, wX _ ?_⟩
    unfold wpY_below
    exact ds_sY hn ⟨_, wY _ ⟨rfl, J⟩⟩
  · refine bX _ (br_t rfl ?_)
    unfold wpY_below
    exact bY _ _ (br_t rfl ⟨rfl, J⟩)
theorem i_vc_total {k : Nat} {u : SX} {v : SY} (I : i_Rel k u v) (hk : k + 5 ≤ 2560) (v1 : Int32) : wpX_total (fun r => wpY_total (fun r' => r' = r ∧ i_Rel (k + 5) u v) v v1) u v1 := by
  have J : i_Rel (k + 5) u v := I
  obtain ⟨m, D, Pa, Pb, V, G, M, K, B, C, S, g, rfl, rfl, T, hM, hK, hB, hO, hQ⟩ := I
  unfold wpX_total
  rcases ds_st v1 with ⟨n, hn, rfl⟩ | ⟨bX, bY⟩
  · obtain ⟨w, wX, wY⟩ := ds_toL (D := D) (V := V) (B := B) (C := C) (S := S) T hM hK hn 8 0 (by omega) 0
    refine ds_sX hn ⟨_, wX _ ?_⟩
    unfold wpY_total
    exact ds_sY hn ⟨_, wY _ ⟨rfl, J⟩⟩
  · refine bX _ (br_t rfl ?_)
    unfold wpY_total
    exact bY _ _ (br_t rfl ⟨rfl, J⟩)
theorem i_vc_agree {k : Nat} {u : SX} {v : SY} (I : i_Rel k u v) (hk : k + 5 ≤ 2560) (v1 : Int32) (v2 : Int32) : wpX_agree (fun r => wpY_agree (fun r' => r' = r ∧ i_Rel (k + 5) u v) v v1 v2) u v1 v2 := by
  have J : i_Rel (k + 5) u v := I
  obtain ⟨m, D, Pa, Pb, V, G, M, K, B, C, S, g, rfl, rfl, T, hM, hK, hB, hO, hQ⟩ := I
  unfold wpX_agree
  rcases ds_st v1 with ⟨n, hn, rfl⟩ | ⟨bX, bY⟩
  · rcases ds_st v2 with ⟨o, ho, rfl⟩ | ⟨bX, bY⟩
    · obtain ⟨w, wX, wY⟩ := ds_agL (D := D) (Pa := Pa) (Pb := Pb) (V := V) (G := G) (M := M) (B := B) (C := C) (S := S) T.1 hK hn ho m 0 (by omega)
      refine ds_sX hn (ds_sX ho ⟨_, wX _ ?_⟩)
      unfold wpY_agree
      exact ds_sY hn (ds_sY ho ⟨_, wY _ ⟨rfl, J⟩⟩)
    · refine ds_sX hn (bX _ (br_t rfl ?_))
      unfold wpY_agree
      exact ds_sY hn (bY _ _ (br_t rfl ⟨rfl, J⟩))
  · refine bX _ (br_t rfl ?_)
    unfold wpY_agree
    exact bY _ _ (br_t rfl ⟨rfl, J⟩)
end
