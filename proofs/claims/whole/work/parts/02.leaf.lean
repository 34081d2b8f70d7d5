/-! the relation's parts -/
def ds_T (m : Nat) (Pa Pb G : Nat → Int32) (g : Nat → Nat) : Prop :=
  m ≤ 80 ∧ ∀ r, r < m → 1 ≤ g r ∧ g r ≤ r + 1 ∧ G r = nI (g r) ∧ ((Pa r = -1000000003 ∧ Pb r = -1 ∧ g r = 1) ∨ ∃ q, q < r ∧ Pa r = nI q ∧ Pb r = nI q ∧ g r = g q + 1)
def ds_Z (f : Nat → Int32) : Prop := ∀ j, f j = 0 ∨ f j = 1
def ds_O (m : Nat) (K B : Nat → Int32) : Prop := ∀ s r, s < 3 → m ≤ r → r < 80 → K (s * 80 + r) = 0 ∧ B (s * 80 + r) = 0
def ds_Q (m : Nat) (D K S : Nat → Int32) : Prop := ∀ s d, s < 3 → d < 8 → ¬ S (s * 8 + d) = 0 → ∃ r, r < m ∧ D r = nI d ∧ ¬ K (s * 80 + r) = 0
def ds_R (u : SX) (v : SY) : Prop := ∃ (m : Nat) (D Pa Pb V G M K B C S : Nat → Int32) (g : Nat → Nat),
  u = ((nI m), D, Pa, V, G, M, K, B, S, C) ∧ v = ((nI m), D, Pb, V, M, K, B, C, S) ∧ ds_T m Pa Pb G g ∧ ds_Z M ∧ ds_Z K ∧ ds_Z B ∧ ds_O m K B ∧ ds_Q m D K S
section
variable {m : Nat} {D Pa Pb V G M K B C S : Nat → Int32} {g : Nat → Nat}
theorem ds_pa (T : ds_T m Pa Pb G g) {i r : Nat} (hi : i < m) (hr : r < 80) : Pa i = nI r ↔ Pb i = nI r := by
  rcases (T.2 i hi).2.2.2 with ⟨h1, h2, _⟩ | ⟨q, hq, h1, h2, _⟩
  · rw [h1, h2]
    exact ⟨fun e => absurd e.symm (ds_nn hr), fun e => absurd e.symm (ds_n1 hr)⟩
  · rw [h1, h2]
theorem ds_pb (T : ds_T m Pa Pb G g) {i r : Nat} (hi : i < m) (h : i ≤ r) (hr : r < 80) : ¬ Pb i = nI r := by
  have := T.1
  rcases (T.2 i hi).2.2.2 with ⟨h1, h2, _⟩ | ⟨q, hq, h1, h2, _⟩
  · rw [h2]
    exact fun e => absurd e.symm (ds_n1 hr)
  · rw [h2]
    intro e
    have := ds_nI (by omega) hr e
    omega
theorem ds_pe (T : ds_T m Pa Pb G g) {a b : Nat} (ha : a < m) (hb : b < m) : Pa a = Pa b ↔ Pb a = Pb b := by
  have hm := T.1
  rcases (T.2 a ha).2.2.2 with ⟨h1, h2, _⟩ | ⟨q, hq, h1, h2, _⟩
  · rcases (T.2 b hb).2.2.2 with ⟨k1, k2, _⟩ | ⟨p, hp, k1, k2, _⟩
    · rw [h1, h2, k1, k2]
      exact ⟨fun _ => rfl, fun _ => rfl⟩
    · rw [h1, h2, k1, k2]
      exact ⟨fun e => absurd e.symm (ds_nn (by omega)), fun e => absurd e.symm (ds_n1 (by omega))⟩
  · rcases (T.2 b hb).2.2.2 with ⟨k1, k2, _⟩ | ⟨p, hp, k1, k2, _⟩
    · rw [h1, h2, k1, k2]
      exact ⟨fun e => absurd e (ds_nn (by omega)), fun e => absurd e (ds_n1 (by omega))⟩
    · rw [h1, h2, k1, k2]
/-! isLeaf -/
theorem ds_leL (T : ds_T m Pa Pb G g) (hK : ds_Z K) {n r : Nat} (hn : n < 3) (hr : r < 80) : ∀ d i : Nat, i + d = m → ∃ a : Int32, (a = 0 ∨ a = 1) ∧
    (∀ post : Int32 → Prop, post a → wX_isLeaf_20 post (nI n) (nI r) (nI m) D Pa V G M K B S C (d + 1) (nI i)) ∧
    (∀ post : Int32 → Prop, post a → wY_isLeaf_24 post (nI n) (nI r) (nI m) D Pb V M K B C S (d + 1) (nI i)) := by
  have hm := T.1
  intro d
  induction d with
  | zero =>
    intro i hi
    have h : nI m ≤ nI i := nI_le (by omega) (by omega)
    exact ⟨1, .inr rfl, fun _ hp => br_t h hp, fun _ hp => br_t h hp⟩
  | succ d ih =>
    intro i hi
    have h : ¬ nI m ≤ nI i := nI_ge (by omega) (by omega)
    have h8 : i < 80 := by omega
    obtain ⟨a, ha, hX, hY⟩ := ih (i + 1) (by omega)
    by_cases p : Pb i = nI r
    · have p' := (ds_pa T (by omega) hr).mpr p
      by_cases z : K (n * 80 + i) = 0
      · exact ⟨a, ha,
          fun post hp => br_f h ⟨ds_v h8, ds_bt (ds_c h8) p' ⟨ds_vx hn h8, ds_bt (ds_cx hn h8) z (nm_r (nI_1 i) (hX post hp))⟩⟩,
          fun post hp => br_f h ⟨ds_v h8, ds_bt (ds_c h8) p (ds_kn hK hn h8 (br_t z (nm_r (nI_1 i) (hY post hp))))⟩⟩
      · exact ⟨0, .inl rfl,
          fun post hp => br_f h ⟨ds_v h8, ds_bt (ds_c h8) p' ⟨ds_vx hn h8, ds_bf (ds_cx hn h8) z hp⟩⟩,
          fun post hp => br_f h ⟨ds_v h8, ds_bt (ds_c h8) p (ds_kn hK hn h8 (br_f z hp))⟩⟩
    · have p' : ¬ Pa i = nI r := fun e => p ((ds_pa T (by omega) hr).mp e)
      exact ⟨a, ha,
        fun post hp => br_f h ⟨ds_v h8, ds_bf (ds_c h8) p' (nm_r (nI_1 i) (hX post hp))⟩,
        fun post hp => br_f h ⟨ds_v h8, ds_bf (ds_c h8) p (nm_r (nI_1 i) (hY post hp))⟩⟩
theorem ds_leS (T : ds_T m Pa Pb G g) {n r f : Nat} (hr : r < m) {post : Int32 → Prop} (H : wY_isLeaf_24 post (nI n) (nI r) (nI m) D Pb V M K B C S f (nI (r + 1))) : ∀ d i : Nat, i + d = r + 1 → wY_isLeaf_24 post (nI n) (nI r) (nI m) D Pb V M K B C S (f + d) (nI i) := by
  have hm := T.1
  intro d
  induction d with
  | zero =>
    intro i hi
    obtain rfl : i = r + 1 := by omega
    exact H
  | succ d ih =>
    intro i hi
    have h : ¬ nI m ≤ nI i := nI_ge (by omega) (by omega)
    have h8 : i < 80 := by omega
    exact br_f h ⟨ds_v h8, ds_bf (ds_c h8) (ds_pb T (by omega) (by omega) (by omega)) (nm_r (nI_1 i) (ih (i + 1) (by omega)))⟩
/-- X's isLeaf(n, r) against Y's isLeaf(n, d, r) -/
theorem ds_le (T : ds_T m Pa Pb G g) (hK : ds_Z K) {n r : Nat} (hn : n < 3) (hr : r < m) : ∃ a : Int32, (a = 0 ∨ a = 1) ∧
    (∀ post : Int32 → Prop, post a → wpX_isLeaf post ((nI m), D, Pa, V, G, M, K, B, S, C) (nI n) (nI r)) ∧
    (∀ post : Int32 → Prop, post a → wpY_isLeaf post ((nI m), D, Pb, V, M, K, B, C, S) (nI n) (D r) (nI r)) ∧
    (∀ (d : Int32) (post : Int32 → Prop), ¬ D r = d → post 0 → wpY_isLeaf post ((nI m), D, Pb, V, M, K, B, C, S) (nI n) d (nI r)) := by
  have hm := T.1
  have h8 : r < 80 := by omega
  have hno : ∀ (d : Int32) (post : Int32 → Prop), ¬ D r = d → post 0 → wpY_isLeaf post ((nI m), D, Pb, V, M, K, B, C, S) (nI n) d (nI r) :=
    fun d post hd hp => ⟨ds_v h8, ds_bf (ds_c h8) hd hp⟩
  by_cases z : K (n * 80 + r) = 0
  · exact ⟨0, .inl rfl, fun post hp => ⟨ds_vx hn h8, ds_bt (ds_cx hn h8) z hp⟩, fun post hp => ⟨ds_v h8, ds_bt (ds_c h8) rfl (ds_kn hK hn h8 (br_t z hp))⟩, hno⟩
  · obtain ⟨a, ha, hX, hY⟩ := ds_leL (D := D) (V := V) (M := M) (B := B) (C := C) (S := S) T hK hn h8 (m - (r + 1)) (r + 1) (by omega)
    exact ⟨a, ha, fun post hp => ⟨ds_vx hn h8, ds_bf (ds_cx hn h8) z (nm_r (nI_1 r) ⟨_, hX post hp⟩)⟩,
      fun post hp => ⟨ds_v h8, ds_bt (ds_c h8) rfl (ds_kn hK hn h8 (br_f z ⟨_, ds_leS T hr (hY post hp) (r + 1) 0 (by omega)⟩))⟩, hno⟩
/-- X's isLeafOf(n, d, r) against Y's isLeaf(n, d, r) -/
theorem ds_lf (T : ds_T m Pa Pb G g) (hK : ds_Z K) {n r : Nat} (hn : n < 3) (hr : r < m) (d : Int32) : ∃ a : Int32, (a = 0 ∨ a = 1) ∧
    (∀ post : Int32 → Prop, post a → wpX_isLeafOf post ((nI m), D, Pa, V, G, M, K, B, S, C) (nI n) d (nI r)) ∧
    (∀ post : Int32 → Prop, post a → wpY_isLeaf post ((nI m), D, Pb, V, M, K, B, C, S) (nI n) d (nI r)) := by
  have hm := T.1
  have h8 : r < 80 := by omega
  obtain ⟨a, ha, hX, hY, hN⟩ := ds_le (D := D) (V := V) (M := M) (B := B) (C := C) (S := S) T hK hn hr
  by_cases z : D r = d
  · subst z
    refine ⟨a, ha, fun post hp => ⟨ds_v h8, ds_bt (ds_c h8) rfl (hX _ ?_)⟩, hY⟩
    rcases ha with rfl | rfl
    · exact br_t rfl hp
    · exact br_f ds_10 hp
  · exact ⟨0, .inl rfl, fun post hp => ⟨ds_v h8, ds_bf (ds_c h8) z hp⟩, fun post hp => hN d post z hp⟩
end
