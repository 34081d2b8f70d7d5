section
variable {m : Nat} {D Pa Pb V G M : Nat → Int32} {g : Nat → Nat}
theorem ds_Ob {K B : Nat → Int32} (hO : ds_O m K B) {n j : Nat} (hj : j < m) (hm : m ≤ 80) (y : Int32) : ds_O m K (upd B (n * 80 + j) y) := by
  intro s r hs hr h8
  have h := hO s r hs hr h8
  rw [ds_un (by omega)]
  exact h
theorem ds_Ok {K B : Nat → Int32} (hO : ds_O m K B) {n j : Nat} (hj : j < m) (hm : m ≤ 80) (x : Int32) : ds_O m (upd K (n * 80 + j) x) B := by
  intro s r hs hr h8
  have h := hO s r hs hr h8
  rw [ds_un (by omega)]
  exact h
/-! compact -/
theorem ds_coL {K S C : Nat → Int32} (T : ds_T m Pa Pb G g) (hK : ds_Z K) {n : Nat} (hn : n < 3) : ∀ d i : Nat, i + d = m → ∀ (B : Nat → Int32) (c : Int32), ds_Z B → ds_O m K B → ∃ (a : Int32) (B' : Nat → Int32), ds_Z B' ∧ ds_O m K B' ∧
    (∀ post : Int32 → SX → Prop, post a ((nI m), D, Pa, V, G, M, K, B', S, C) → wX_compact_14 post (nI n) (nI m) (d + 1) c (nI i) D Pa V G M K B S C) ∧
    (∀ post : Int32 → SY → Prop, post a ((nI m), D, Pb, V, M, K, B', C, S) → wY_compact_15 post (nI n) (nI m) (d + 1) c (nI i) D Pb V M K B C S) := by
  have hm := T.1
  intro d
  induction d with
  | zero =>
    intro i hi B c hB hO
    have h : nI m ≤ nI i := nI_le (by omega) (by omega)
    exact ⟨c, B, hB, hO, fun _ hp => br_t h hp, fun _ hp => br_t h hp⟩
  | succ d ih =>
    intro i hi B c hB hO
    have h : ¬ nI m ≤ nI i := nI_ge (by omega) (by omega)
    have i8 : i < 80 := by omega
    by_cases z : B (n * 80 + i) = 0
    · obtain ⟨a, B', h1, h2, aX, aY⟩ := ih (i + 1) (by omega) B c hB hO
      exact ⟨a, B', h1, h2, fun post hp => br_f h ⟨ds_vx hn i8, ds_bt (ds_cx hn i8) z (nm_r (nI_1 i) (aX post hp))⟩, fun post hp => br_f h ⟨ds_vy hn i8, ds_bt (ds_cy hn i8) z (nm_r (nI_1 i) (aY post hp))⟩⟩
    · obtain ⟨l, hl, lX, lY, _⟩ := ds_le (D := D) (V := V) (M := M) (B := B) (C := C) (S := S) T hK hn (show i < m by omega)
      rcases hl with rfl | rfl
      · obtain ⟨a, B', h1, h2, aX, aY⟩ := ih (i + 1) (by omega) (upd B (n * 80 + i) 0) (c + 1) (ds_zu hB (.inl rfl) _) (ds_Ob hO (by omega) hm 0)
        refine ⟨a, B', h1, h2, fun post hp => br_f h ⟨ds_vx hn i8, ds_bf (ds_cx hn i8) z (lX _ (br_t rfl ⟨ds_vx hn i8, nm_r (e' := upd B (n * 80 + i) 0) (by rw [ds_cx hn i8, ds_b0]) (nm_e (nm_r (nI_1 i) (aX post hp)))⟩))⟩, fun post hp => br_f h ⟨ds_vy hn i8, ds_bf (ds_cy hn i8) z ⟨ds_v i8, ?_⟩⟩⟩
        rw [ds_c i8]
        exact lY _ (br_t rfl ⟨ds_vy hn i8, nm_r (e' := upd B (n * 80 + i) 0) (by rw [ds_cy hn i8, ds_b0]) (nm_e (nm_r (nI_1 i) (aY post hp)))⟩)
      · obtain ⟨a, B', h1, h2, aX, aY⟩ := ih (i + 1) (by omega) B c hB hO
        refine ⟨a, B', h1, h2, fun post hp => br_f h ⟨ds_vx hn i8, ds_bf (ds_cx hn i8) z (lX _ (br_f ds_10 (nm_r (nI_1 i) (aX post hp))))⟩, fun post hp => br_f h ⟨ds_vy hn i8, ds_bf (ds_cy hn i8) z ⟨ds_v i8, ?_⟩⟩⟩
        rw [ds_c i8]
        exact lY _ (br_f ds_10 (nm_r (nI_1 i) (aY post hp)))
/-! purge -/
theorem ds_puL {S C : Nat → Int32} (hm : m ≤ 80) {n q : Nat} (hn : n < 3) : ∀ d i : Nat, i + d = m → ∀ (K B : Nat → Int32) (e : Nat), e ≤ i → ds_Z K → ds_Z B → ds_O m K B → ∃ (f : Nat) (K' B' : Nat → Int32), e ≤ f ∧ f ≤ m ∧ ds_Z K' ∧ ds_Z B' ∧ ds_O m K' B' ∧
    (∀ j, K' j = K j ∨ ∃ r, r < m ∧ j = n * 80 + r ∧ D r = nI q) ∧
    (f = e → K' = K ∧ B' = B ∧ ∀ r, i ≤ r → r < m → D r = nI q → K (n * 80 + r) = 0) ∧
    (∀ post : Int32 → SX → Prop, wX_purge_22 post (nI n) (nI q) (nI m) 1 (nI f) (nI m) D Pa V G M K' B' S C → wX_purge_22 post (nI n) (nI q) (nI m) (d + 1) (nI e) (nI i) D Pa V G M K B S C) ∧
    (∀ post : Int32 → SY → Prop, wY_purge_17 post (nI n) (nI q) (nI m) 1 (nI f) (nI m) D Pb V M K' B' C S → wY_purge_17 post (nI n) (nI q) (nI m) (d + 1) (nI e) (nI i) D Pb V M K B C S) := by
  intro d
  induction d with
  | zero =>
    intro i hi K B e he hK hB hO
    obtain rfl : i = m := by omega
    exact ⟨e, K, B, by omega, he, hK, hB, hO, fun j => .inl rfl, fun _ => ⟨rfl, rfl, fun r h1 h2 => by omega⟩, fun _ hp => hp, fun _ hp => hp⟩
  | succ d ih =>
    intro i hi K B e he hK hB hO
    have h : ¬ nI m ≤ nI i := nI_ge (by omega) (by omega)
    have i8 : i < 80 := by omega
    by_cases y : D i = nI q
    · by_cases z : K (n * 80 + i) = 0
      · obtain ⟨f, K', B', h1, h2, h3, h4, h5, h6, h7, aX, aY⟩ := ih (i + 1) (by omega) K B e (by omega) hK hB hO
        refine ⟨f, K', B', h1, h2, h3, h4, h5, h6, fun ef => ⟨(h7 ef).1, (h7 ef).2.1, fun r r1 r2 r3 => ?_⟩, fun post hp => br_f h ⟨ds_v i8, ds_bt (ds_c i8) y ⟨ds_vx hn i8, ds_bt (ds_cx hn i8) z (nm_r (nI_1 i) (aX post hp))⟩⟩, fun post hp => br_f h ⟨ds_v i8, ds_bt (ds_c i8) y (ds_kn hK hn i8 (br_t z (nm_r (nI_1 i) (aY post hp))))⟩⟩
        by_cases er : r = i
        · rw [er]; exact z
        · exact (h7 ef).2.2 r (by omega) r2 r3
      · obtain ⟨f, K', B', h1, h2, h3, h4, h5, h6, h7, aX, aY⟩ := ih (i + 1) (by omega) (upd K (n * 80 + i) 0) (upd B (n * 80 + i) 0) (e + 1) (by omega) (ds_zu hK (.inl rfl) _) (ds_zu hB (.inl rfl) _) (ds_Og hO (by omega) hm 0 0)
        refine ⟨f, K', B', by omega, h2, h3, h4, h5, fun j => ?_, fun ef => by omega,
          fun post hp => br_f h ⟨ds_v i8, ds_bt (ds_c i8) y ⟨ds_vx hn i8, ds_bf (ds_cx hn i8) z ⟨ds_vx hn i8, nm_r (e' := upd K (n * 80 + i) 0) (by rw [ds_cx hn i8, ds_b0]) ⟨ds_vx hn i8, nm_r (e' := upd B (n * 80 + i) 0) (by rw [ds_cx hn i8, ds_b0]) (nm_r (nI_1 e) (nm_r (nI_1 i) (aX post hp)))⟩⟩⟩⟩,
          fun post hp => br_f h ⟨ds_v i8, ds_bt (ds_c i8) y (ds_kn hK hn i8 (br_f z ⟨ds_vy hn i8, nm_r (e' := upd K (n * 80 + i) 0) (by rw [ds_cy hn i8, ds_b0]) ⟨ds_vy hn i8, nm_r (e' := upd B (n * 80 + i) 0) (by rw [ds_cy hn i8, ds_b0]) (nm_r (nI_1 e) (nm_r (nI_1 i) (aY post hp)))⟩⟩))⟩⟩
        rcases h6 j with h | h
        · by_cases ej : j = n * 80 + i
          · exact .inr ⟨i, by omega, ej, y⟩
          · rw [ds_un ej] at h
            exact .inl h
        · exact .inr h
    · obtain ⟨f, K', B', h1, h2, h3, h4, h5, h6, h7, aX, aY⟩ := ih (i + 1) (by omega) K B e (by omega) hK hB hO
      refine ⟨f, K', B', h1, h2, h3, h4, h5, h6, fun ef => ⟨(h7 ef).1, (h7 ef).2.1, fun r r1 r2 r3 => ?_⟩, fun post hp => br_f h ⟨ds_v i8, ds_bf (ds_c i8) y (nm_r (nI_1 i) (aX post hp))⟩, fun post hp => br_f h ⟨ds_v i8, ds_bf (ds_c i8) y (nm_r (nI_1 i) (aY post hp))⟩⟩
      by_cases er : r = i
      · rw [er] at r3; exact absurd r3 y
      · exact (h7 ef).2.2 r (by omega) r2 r3
theorem ds_pu {K B S C : Nat → Int32} (T : ds_T m Pa Pb G g) (hM : ds_Z M) (hK : ds_Z K) (hB : ds_Z B) (hO : ds_O m K B) (hQ : ds_Q m D K S) {n q : Nat} (hn : n < 3) (hq : q < 8) : ∃ (a : Int32) (u' : SX) (v' : SY), ds_R u' v' ∧
    (∀ post : Int32 → SX → Prop, post a u' → wX_purge_22 post (nI n) (nI q) (nI m) (m + 1) (nI 0) (nI 0) D Pa V G M K B S C) ∧
    (∀ post : Int32 → SY → Prop, post a v' → wY_purge_17 post (nI n) (nI q) (nI m) (m + 1) (nI 0) (nI 0) D Pb V M K B C S) := by
  have hm := T.1
  obtain ⟨f, K', B', _, h2, h3, h4, h5, h6, h7, aX, aY⟩ := ds_puL (D := D) (Pa := Pa) (Pb := Pb) (V := V) (G := G) (M := M) (S := S) (C := C) (q := q) hm hn m 0 (by omega) K B 0 (by omega) hK hB hO
  have h : nI m ≤ nI m := nI_le (by omega) (by omega)
  by_cases z : f = 0
  · obtain ⟨rfl, rfl, h8⟩ := h7 z
    subst z
    have s0 : S (n * 8 + q) = 0 := by
      by_cases y : S (n * 8 + q) = 0
      · exact y
      · obtain ⟨r, hr, r1, r2⟩ := hQ n q hn hq y
        exact absurd (h8 r (by omega) hr r1) r2
    exact ⟨-1000000003, ((nI m), D, Pa, V, G, M, K', B', S, C), ((nI m), D, Pb, V, M, K', B', C, S), ⟨_, _, _, _, _, _, _, _, _, _, _, g, rfl, rfl, T, hM, hK, hB, hO, hQ⟩, fun post hp => aX post (br_t h (br_t rfl hp)),
      fun post hp => aY post (br_t h ⟨ds_wy hn hq, nm_r (e' := S) (by rw [ds_dy hn hq]; exact ds_uv s0) (br_t rfl hp)⟩)⟩
  · have f0 : ¬ nI f = 0 := nI_ne0 (by omega) (by omega)
    refine ⟨nI f, ((nI m), D, Pa, V, G, M, K', B', (upd S (n * 8 + q) 0), C), ((nI m), D, Pb, V, M, K', B', C, (upd S (n * 8 + q) 0)), ⟨_, _, _, _, _, _, _, _, _, _, _, g, rfl, rfl, T, hM, h3, h4, h5, ?_⟩,
      fun post hp => aX post (br_t h (br_f f0 ⟨ds_wx hn hq, nm_r (e' := upd S (n * 8 + q) 0) (by rw [ds_dx hn hq]) hp⟩)),
      fun post hp => aY post (br_t h ⟨ds_wy hn hq, nm_r (e' := upd S (n * 8 + q) 0) (by rw [ds_dy hn hq]) (br_f f0 hp)⟩)⟩
    intro s d hs hd y
    by_cases e : s * 8 + d = n * 8 + q
    · rw [e, ds_us] at y
      exact absurd rfl y
    · rw [ds_un e] at y
      obtain ⟨r, hr, r1, r2⟩ := hQ s d hs hd y
      refine ⟨r, hr, r1, ?_⟩
      rcases h6 (s * 80 + r) with k | ⟨r', hr', k1, k2⟩
      · rw [k]; exact r2
      · obtain rfl : r = r' := by omega
        obtain rfl : s = n := by omega
        rw [r1] at k2
        have := ds_nI (by omega) (by omega) k2
        omega
/-! hasNewsFor against isAhead -/
theorem ds_haL {K B S C : Nat → Int32} (hm : m ≤ 80) (hK : ds_Z K) {n o q : Nat} (hn : n < 3) (ho : o < 3) : ∀ d i : Nat, i + d = m → ∃ a : Int32, (a = 0 ∨ (a = 1 ∧ ∃ r, r < m ∧ D r = nI q ∧ ¬ K (n * 80 + r) = 0)) ∧
    (∀ post : Int32 → Prop, post a → wX_hasNewsFor_3 post (nI n) (nI o) (nI q) (nI m) D Pa V G M K B S C (d + 1) (nI i)) ∧
    (∀ post : Int32 → Prop, post a → wY_isAhead_3 post (nI n) (nI o) (nI q) (nI m) D Pb V M K B C S (d + 1) (nI i)) := by
  intro d
  induction d with
  | zero =>
    intro i hi
    have h : nI m ≤ nI i := nI_le (by omega) (by omega)
    exact ⟨0, .inl rfl, fun _ hp => br_t h hp, fun _ hp => br_t h hp⟩
  | succ d ih =>
    intro i hi
    have h : ¬ nI m ≤ nI i := nI_ge (by omega) (by omega)
    have i8 : i < 80 := by omega
    obtain ⟨a, ha, aX, aY⟩ := ih (i + 1) (by omega)
    by_cases y : D i = nI q
    · by_cases z : K (n * 80 + i) = 0
      · exact ⟨a, ha, fun post hp => br_f h ⟨ds_v i8, ds_bt (ds_c i8) y ⟨ds_vx hn i8, ds_bt (ds_cx hn i8) z (nm_r (nI_1 i) (aX post hp))⟩⟩, fun post hp => br_f h ⟨ds_v i8, ds_bt (ds_c i8) y (ds_kn hK hn i8 (br_t z (nm_r (nI_1 i) (aY post hp))))⟩⟩
      · by_cases w : K (o * 80 + i) = 0
        · exact ⟨1, .inr ⟨rfl, i, by omega, y, z⟩, fun post hp => br_f h ⟨ds_v i8, ds_bt (ds_c i8) y ⟨ds_vx hn i8, ds_bf (ds_cx hn i8) z ⟨ds_vx ho i8, ds_bt (ds_cx ho i8) w hp⟩⟩⟩, fun post hp => br_f h ⟨ds_v i8, ds_bt (ds_c i8) y (ds_kn hK hn i8 (br_f z (ds_kn hK ho i8 (br_t w hp))))⟩⟩
        · exact ⟨a, ha, fun post hp => br_f h ⟨ds_v i8, ds_bt (ds_c i8) y ⟨ds_vx hn i8, ds_bf (ds_cx hn i8) z ⟨ds_vx ho i8, ds_bf (ds_cx ho i8) w (nm_r (nI_1 i) (aX post hp))⟩⟩⟩, fun post hp => br_f h ⟨ds_v i8, ds_bt (ds_c i8) y (ds_kn hK hn i8 (br_f z (ds_kn hK ho i8 (br_f w (nm_r (nI_1 i) (aY post hp))))))⟩⟩
    · exact ⟨a, ha, fun post hp => br_f h ⟨ds_v i8, ds_bf (ds_c i8) y (nm_r (nI_1 i) (aX post hp))⟩, fun post hp => br_f h ⟨ds_v i8, ds_bf (ds_c i8) y (nm_r (nI_1 i) (aY post hp))⟩⟩
/-! copyDocument -/
theorem ds_cdL {S C : Nat → Int32} (T : ds_T m Pa Pb G g) {n o q : Nat} (hn : n < 3) (ho : o < 3) (hq : q < 8) : ∀ d i : Nat, i + d = m → ∀ K B : Nat → Int32, ds_Z K → ds_Z B → ds_O m K B → ∃ K' B' : Nat → Int32, ds_Z K' ∧ ds_Z B' ∧ ds_O m K' B' ∧
    (∀ j, ¬ K j = 0 → ¬ K' j = 0) ∧ (∀ r, i ≤ r → r < m → D r = nI q → ¬ K (n * 80 + r) = 0 → ¬ K' (o * 80 + r) = 0) ∧
    (∀ post : SX → Prop, post ((nI m), D, Pa, V, G, M, K', B', (upd S (o * 8 + q) (upd C o (C o + 1) o)), (upd C o (C o + 1))) → wX_copyDocument_3 post (nI n) (nI o) (nI q) (nI m) (d + 1) (nI i) D Pa V G M K B S C) ∧
    (∀ post : SY → Prop, post ((nI m), D, Pb, V, M, K', B', (upd C o (C o + 1)), (upd S (o * 8 + q) (upd C o (C o + 1) o))) → wY_copyDocument_3 post (nI n) (nI o) (nI q) (nI m) (d + 1) (nI i) D Pb V M K B C S) := by
  have hm := T.1
  intro d
  induction d with
  | zero =>
    intro i hi K B hK hB hO
    have h : nI m ≤ nI i := nI_le (by omega) (by omega)
    exact ⟨K, B, hK, hB, hO, fun _ h => h, fun r h1 h2 => by omega, fun _ hp => br_t h (ds_gsX ho hq hp), fun _ hp => br_t h (ds_gsY ho hq hp)⟩
  | succ d ih =>
    intro i hi K B hK hB hO
    have h : ¬ nI m ≤ nI i := nI_ge (by omega) (by omega)
    have i8 : i < 80 := by omega
    by_cases y : D i = nI q
    · by_cases z : K (n * 80 + i) = 0
      · obtain ⟨K', B', h1, h2, h3, h4, h5, aX, aY⟩ := ih (i + 1) (by omega) K B hK hB hO
        refine ⟨K', B', h1, h2, h3, h4, fun r r1 r2 r3 r4 => ?_, fun post hp => br_f h ⟨ds_v i8, ds_bt (ds_c i8) y ⟨ds_vx hn i8, ds_bt (ds_cx hn i8) z (nm_r (nI_1 i) (aX post hp))⟩⟩, fun post hp => br_f h ⟨ds_v i8, ds_bt (ds_c i8) y (ds_kn hK hn i8 (br_t z (nm_r (nI_1 i) (aY post hp))))⟩⟩
        by_cases e : r = i
        · rw [e] at r4; exact absurd z r4
        · exact h5 r (by omega) r2 r3 r4
      · have hK1 : ds_Z (upd K (o * 80 + i) 1) := ds_zu hK (.inr rfl) _
        have hg1 : ∀ j, ¬ K j = 0 → ¬ upd K (o * 80 + i) 1 j = 0 := fun j hj => ds_gu ds_10 _ j hj
        have ekx : upd K (nI o * 80 + nI i).toNatClampNeg (vp_nar .boolean 1) = upd K (o * 80 + i) 1 := by rw [ds_cx ho i8, ds_b1]
        have eky : upd K (80 * nI o + nI i).toNatClampNeg (vp_nar .boolean 1) = upd K (o * 80 + i) 1 := by rw [ds_cy ho i8, ds_b1]
        have hb1 : ¬ B (o * 80 + i) = 0 → upd B (o * 80 + i) 1 = B := fun w => ds_uv ((hB _).resolve_left w)
        obtain ⟨l, hl, lX, lY, _⟩ := ds_le (D := D) (V := V) (M := M) (B := B) (C := C) (S := S) T hK1 hn (show i < m by omega)
        rw [y] at lY
        by_cases zb : B (n * 80 + i) = 0
        · obtain ⟨K', B', h1, h2, h3, h4, h5, aX, aY⟩ := ih (i + 1) (by omega) (upd K (o * 80 + i) 1) B hK1 hB (ds_Ok hO (by omega) hm 1)
          refine ⟨K', B', h1, h2, h3, fun j hj => h4 j (hg1 j hj), fun r r1 r2 r3 r4 => ?_, fun post hp => ?_, fun post hp => ?_⟩
          · by_cases e : r = i
            · rw [e]; exact h4 _ (by rw [ds_us]; exact ds_10)
            · exact h5 r (by omega) r2 r3 (hg1 _ r4)
          · exact br_f h ⟨ds_v i8, ds_bt (ds_c i8) y ⟨ds_vx hn i8, ds_bf (ds_cx hn i8) z ⟨ds_vx ho i8, nm_r ekx ⟨ds_vx hn i8, ds_bt (ds_cx hn i8) zb (nm_r (nI_1 i) (aX post hp))⟩⟩⟩⟩
          · refine br_f h ⟨ds_v i8, ds_bt (ds_c i8) y (ds_kn hK hn i8 (br_f z ⟨ds_vy ho i8, nm_r eky ⟨ds_vy ho i8, ?_⟩⟩))⟩
            by_cases w : B (o * 80 + i) = 0
            · refine ds_bt (ds_cy ho i8) w (lY _ ?_)
              rcases hl with rfl | rfl
              · exact br_t rfl ⟨ds_vy ho i8, nm_r (e' := B) (by rw [ds_cy ho i8, ds_b0]; exact ds_uv w) (nm_r (nI_1 i) (aY post hp))⟩
              · exact br_f ds_10 ⟨ds_vy hn i8, ds_bt (ds_cy hn i8) zb ⟨ds_vy ho i8, nm_r (e' := B) (by rw [ds_cy ho i8, ds_b0]; exact ds_uv w) (nm_r (nI_1 i) (aY post hp))⟩⟩
            · exact ds_bf (ds_cy ho i8) w ⟨ds_vy ho i8, nm_r (e' := B) (by rw [ds_cy ho i8, ds_b1]; exact hb1 w) (nm_r (nI_1 i) (aY post hp))⟩
        · rcases hl with rfl | rfl
          · obtain ⟨K', B', h1, h2, h3, h4, h5, aX, aY⟩ := ih (i + 1) (by omega) (upd K (o * 80 + i) 1) B hK1 hB (ds_Ok hO (by omega) hm 1)
            refine ⟨K', B', h1, h2, h3, fun j hj => h4 j (hg1 j hj), fun r r1 r2 r3 r4 => ?_, fun post hp => ?_, fun post hp => ?_⟩
            · by_cases e : r = i
              · rw [e]; exact h4 _ (by rw [ds_us]; exact ds_10)
              · exact h5 r (by omega) r2 r3 (hg1 _ r4)
            · exact br_f h ⟨ds_v i8, ds_bt (ds_c i8) y ⟨ds_vx hn i8, ds_bf (ds_cx hn i8) z ⟨ds_vx ho i8, nm_r ekx ⟨ds_vx hn i8, ds_bf (ds_cx hn i8) zb (lX _ (br_t rfl (nm_r (nI_1 i) (aX post hp))))⟩⟩⟩⟩
            · refine br_f h ⟨ds_v i8, ds_bt (ds_c i8) y (ds_kn hK hn i8 (br_f z ⟨ds_vy ho i8, nm_r eky ⟨ds_vy ho i8, ?_⟩⟩))⟩
              by_cases w : B (o * 80 + i) = 0
              · exact ds_bt (ds_cy ho i8) w (lY _ (br_t rfl ⟨ds_vy ho i8, nm_r (e' := B) (by rw [ds_cy ho i8, ds_b0]; exact ds_uv w) (nm_r (nI_1 i) (aY post hp))⟩))
              · exact ds_bf (ds_cy ho i8) w ⟨ds_vy ho i8, nm_r (e' := B) (by rw [ds_cy ho i8, ds_b1]; exact hb1 w) (nm_r (nI_1 i) (aY post hp))⟩
          · obtain ⟨K', B', h1, h2, h3, h4, h5, aX, aY⟩ := ih (i + 1) (by omega) (upd K (o * 80 + i) 1) (upd B (o * 80 + i) 1) hK1 (ds_zu hB (.inr rfl) _) (ds_Og hO (by omega) hm 1 1)
            have ebx : upd B (nI o * 80 + nI i).toNatClampNeg (vp_nar .boolean 1) = upd B (o * 80 + i) 1 := by rw [ds_cx ho i8, ds_b1]
            have eby : upd B (80 * nI o + nI i).toNatClampNeg (vp_nar .boolean 1) = upd B (o * 80 + i) 1 := by rw [ds_cy ho i8, ds_b1]
            refine ⟨K', B', h1, h2, h3, fun j hj => h4 j (hg1 j hj), fun r r1 r2 r3 r4 => ?_, fun post hp => ?_, fun post hp => ?_⟩
            · by_cases e : r = i
              · rw [e]; exact h4 _ (by rw [ds_us]; exact ds_10)
              · exact h5 r (by omega) r2 r3 (hg1 _ r4)
            · exact br_f h ⟨ds_v i8, ds_bt (ds_c i8) y ⟨ds_vx hn i8, ds_bf (ds_cx hn i8) z ⟨ds_vx ho i8, nm_r ekx ⟨ds_vx hn i8, ds_bf (ds_cx hn i8) zb (lX _ (br_f ds_10 ⟨ds_vx ho i8, nm_r ebx (nm_r (nI_1 i) (aX post hp))⟩))⟩⟩⟩⟩
            · refine br_f h ⟨ds_v i8, ds_bt (ds_c i8) y (ds_kn hK hn i8 (br_f z ⟨ds_vy ho i8, nm_r eky ⟨ds_vy ho i8, ?_⟩⟩))⟩
              by_cases w : B (o * 80 + i) = 0
              · exact ds_bt (ds_cy ho i8) w (lY _ (br_f ds_10 ⟨ds_vy hn i8, ds_bf (ds_cy hn i8) zb ⟨ds_vy ho i8, nm_r eby (nm_r (nI_1 i) (aY post hp))⟩⟩))
              · exact ds_bf (ds_cy ho i8) w ⟨ds_vy ho i8, nm_r eby (nm_r (nI_1 i) (aY post hp))⟩
    · obtain ⟨K', B', h1, h2, h3, h4, h5, aX, aY⟩ := ih (i + 1) (by omega) K B hK hB hO
      refine ⟨K', B', h1, h2, h3, h4, fun r r1 r2 r3 r4 => ?_, fun post hp => br_f h ⟨ds_v i8, ds_bf (ds_c i8) y (nm_r (nI_1 i) (aX post hp))⟩, fun post hp => br_f h ⟨ds_v i8, ds_bf (ds_c i8) y (nm_r (nI_1 i) (aY post hp))⟩⟩
      by_cases e : r = i
      · rw [e] at r3; exact absurd r3 y
      · exact h5 r (by omega) r2 r3 r4
end
