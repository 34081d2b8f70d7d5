section
variable {m : Nat} {D Pa Pb V G M K B C S : Nat → Int32} {g : Nat → Nat}
/-- winnerInView against exists and findWinner -/
theorem ds_vi (T : ds_T m Pa Pb G g) (hM : ds_Z M) (hK : ds_Z K) {n : Nat} (hn : n < 3) (q : Int32) :
    ((∀ post : Int32 → Prop, post (-1000000003) → wpX_winnerInView post ((nI m), D, Pa, V, G, M, K, B, S, C) (nI n) q) ∧ (∀ post : Int32 → Prop, post 0 → wpY_exists post ((nI m), D, Pb, V, M, K, B, C, S) (nI n) q)) ∨
    (∃ j : Nat, j < 80 ∧ (∀ post : Int32 → Prop, post (nI j) → wpX_winnerInView post ((nI m), D, Pa, V, G, M, K, B, S, C) (nI n) q) ∧ (∀ post : Int32 → Prop, post 1 → wpY_exists post ((nI m), D, Pb, V, M, K, B, C, S) (nI n) q) ∧
      (∀ post : Int32 → Prop, post (nI j) → wpY_findWinner post ((nI m), D, Pb, V, M, K, B, C, S) (nI n) q)) := by
  have hm := T.1
  obtain ⟨w, hw, wX, wY⟩ := ds_wi (D := D) (V := V) (B := B) (C := C) (S := S) T hM hK hn q
  rcases hw with rfl | ⟨j, hj, rfl⟩
  · refine .inl ⟨fun post hp => ?_, fun post hp => ?_⟩
    · unfold wpX_winnerInView
      exact wX _ (br_t rfl hp)
    · unfold wpY_exists
      exact wY _ (br_t rfl hp)
  · have j8 : j < 80 := by omega
    by_cases z : M j = 0
    · refine .inr ⟨j, j8, fun post hp => ?_, fun post hp => ?_, wY⟩
      · unfold wpX_winnerInView
        exact wX _ (br_f (ds_nn j8) ⟨ds_v j8, ds_bt (ds_c j8) z hp⟩)
      · unfold wpY_exists
        exact wY _ (br_f (ds_nn j8) ⟨ds_v j8, ds_bt (ds_c j8) z hp⟩)
    · refine .inl ⟨fun post hp => ?_, fun post hp => ?_⟩
      · unfold wpX_winnerInView
        exact wX _ (br_f (ds_nn j8) ⟨ds_v j8, ds_bf (ds_c j8) z hp⟩)
      · unfold wpY_exists
        exact wY _ (br_f (ds_nn j8) ⟨ds_v j8, ds_bf (ds_c j8) z hp⟩)
/-! size -/
theorem ds_siL (T : ds_T m Pa Pb G g) (hM : ds_Z M) (hK : ds_Z K) {n : Nat} (hn : n < 3) : ∀ d i : Nat, i + d = 8 → ∀ c : Int32, ∃ a : Int32,
    (∀ post : Int32 → Prop, post a → wX_size_14 post (nI n) (nI m) D Pa V G M K B S C (d + 1) c (nI i)) ∧
    (∀ post : Int32 → Prop, post a → wY_size_15 post (nI n) (nI m) D Pb V M K B C S (d + 1) c (nI i)) := by
  intro d
  induction d with
  | zero =>
    intro i hi c
    have h : 8 ≤ nI i := nI_le (a := 8) (by omega) (by omega)
    exact ⟨c, fun _ hp => br_t h hp, fun _ hp => br_t h hp⟩
  | succ d ih =>
    intro i hi c
    have h : ¬ 8 ≤ nI i := nI_ge (b := 8) (by omega) (by decide)
    rcases ds_vi (D := D) (V := V) (B := B) (C := C) (S := S) T hM hK hn (nI i) with ⟨wX, wY⟩ | ⟨j, j8, wX, wY, _⟩
    · obtain ⟨a, aX, aY⟩ := ih (i + 1) (by omega) c
      exact ⟨a, fun post hp => br_f h (wX _ (br_t rfl (nm_r (nI_1 i) (aX post hp)))), fun post hp => br_f h (wY _ (br_t rfl (nm_r (nI_1 i) (aY post hp))))⟩
    · obtain ⟨a, aX, aY⟩ := ih (i + 1) (by omega) (c + 1)
      exact ⟨a, fun post hp => br_f h (wX _ (br_f (ds_nn j8) (nm_e (nm_r (nI_1 i) (aX post hp))))), fun post hp => br_f h (wY _ (br_f ds_10 (nm_e (nm_r (nI_1 i) (aY post hp)))))⟩
/-! below -/
theorem ds_beL (T : ds_T m Pa Pb G g) (hM : ds_Z M) (hK : ds_Z K) {n : Nat} (hn : n < 3) (x : Int32) : ∀ d i : Nat, i + d = 8 → ∀ c : Int32, ∃ a : Int32,
    (∀ post : Int32 → Prop, post a → wX_below_15 post (nI n) x (nI m) D Pa V G M K B S C (d + 1) c (nI i)) ∧
    (∀ post : Int32 → Prop, post a → wY_below_16 post (nI n) x (nI m) D Pb V M K B C S (d + 1) c (nI i)) := by
  intro d
  induction d with
  | zero =>
    intro i hi c
    have h : 8 ≤ nI i := nI_le (a := 8) (by omega) (by omega)
    exact ⟨c, fun _ hp => br_t h hp, fun _ hp => br_t h hp⟩
  | succ d ih =>
    intro i hi c
    have h : ¬ 8 ≤ nI i := nI_ge (b := 8) (by omega) (by decide)
    rcases ds_vi (D := D) (V := V) (B := B) (C := C) (S := S) T hM hK hn (nI i) with ⟨wX, wY⟩ | ⟨j, j8, wX, wY, fY⟩
    · obtain ⟨a, aX, aY⟩ := ih (i + 1) (by omega) c
      exact ⟨a, fun post hp => br_f h (wX _ (br_t rfl (nm_r (nI_1 i) (aX post hp)))), fun post hp => br_f h (wY _ (br_t rfl (nm_r (nI_1 i) (aY post hp))))⟩
    · by_cases z : x ≤ V (nI j).toNatClampNeg
      · obtain ⟨a, aX, aY⟩ := ih (i + 1) (by omega) c
        exact ⟨a, fun post hp => br_f h (wX _ (br_f (ds_nn j8) ⟨ds_v j8, br_t z (nm_r (nI_1 i) (aX post hp))⟩)), fun post hp => br_f h (wY _ (br_f ds_10 (fY _ ⟨ds_v j8, br_t z (nm_r (nI_1 i) (aY post hp))⟩)))⟩
      · obtain ⟨a, aX, aY⟩ := ih (i + 1) (by omega) (c + 1)
        exact ⟨a, fun post hp => br_f h (wX _ (br_f (ds_nn j8) ⟨ds_v j8, br_f z (nm_e (nm_r (nI_1 i) (aX post hp)))⟩)), fun post hp => br_f h (wY _ (br_f ds_10 (fY _ ⟨ds_v j8, br_f z (nm_e (nm_r (nI_1 i) (aY post hp)))⟩)))⟩
/-! total -/
theorem ds_toL (T : ds_T m Pa Pb G g) (hM : ds_Z M) (hK : ds_Z K) {n : Nat} (hn : n < 3) : ∀ d i : Nat, i + d = 8 → ∀ c : Int32, ∃ a : Int32,
    (∀ post : Int32 → Prop, post a → wX_total_14 post (nI n) (nI m) D Pa V G M K B S C (d + 1) c (nI i)) ∧
    (∀ post : Int32 → Prop, post a → wY_total_15 post (nI n) (nI m) D Pb V M K B C S (d + 1) c (nI i)) := by
  intro d
  induction d with
  | zero =>
    intro i hi c
    have h : 8 ≤ nI i := nI_le (a := 8) (by omega) (by omega)
    exact ⟨c, fun _ hp => br_t h hp, fun _ hp => br_t h hp⟩
  | succ d ih =>
    intro i hi c
    have h : ¬ 8 ≤ nI i := nI_ge (b := 8) (by omega) (by decide)
    rcases ds_vi (D := D) (V := V) (B := B) (C := C) (S := S) T hM hK hn (nI i) with ⟨wX, wY⟩ | ⟨j, j8, wX, wY, fY⟩
    · obtain ⟨a, aX, aY⟩ := ih (i + 1) (by omega) c
      exact ⟨a, fun post hp => br_f h (wX _ (br_t rfl (nm_r (nI_1 i) (aX post hp)))), fun post hp => br_f h (wY _ (br_t rfl (nm_r (nI_1 i) (aY post hp))))⟩
    · obtain ⟨a, aX, aY⟩ := ih (i + 1) (by omega) (c + V (nI j).toNatClampNeg)
      exact ⟨a, fun post hp => br_f h (wX _ (br_f (ds_nn j8) ⟨ds_v j8, nm_e (nm_r (nI_1 i) (aX post hp))⟩)), fun post hp => br_f h (wY _ (br_f ds_10 (fY _ ⟨ds_v j8, nm_e (nm_r (nI_1 i) (aY post hp))⟩)))⟩
/-! viewed -/
theorem ds_plL (T : ds_T m Pa Pb G g) (hM : ds_Z M) (hK : ds_Z K) {n : Nat} (hn : n < 3) (k x : Int32) (e : Nat) : ∀ d i : Nat, i + d = 8 → ∀ c : Int32, ∃ a : Int32,
    (∀ post : Int32 → Prop, post a → wX_placeInView_6 post (nI n) (nI e) x (nI m) D Pa V G M K B S C (d + 1) c (nI i)) ∧
    (∀ post J : Int32 → Prop, ((a = k → post (nI e)) ∧ (¬ a = k → J (nI (e + 1)))) → wY_viewed_47 post J (nI n) k (nI e) x (nI m) D Pb V M K B C S (d + 1) c (nI i)) := by
  intro d
  induction d with
  | zero =>
    intro i hi c
    have h : 8 ≤ nI i := nI_le (a := 8) (by omega) (by omega)
    exact ⟨c, fun _ hp => br_t h hp, fun post J hp => br_t h ⟨hp.1, fun z => nm_r (nI_1 e) (hp.2 z)⟩⟩
  | succ d ih =>
    intro i hi c
    have h : ¬ 8 ≤ nI i := nI_ge (b := 8) (by omega) (by decide)
    obtain ⟨a, aX, aY⟩ := ih (i + 1) (by omega) c
    obtain ⟨b, bX, bY⟩ := ih (i + 1) (by omega) (c + 1)
    rcases ds_vi (D := D) (V := V) (B := B) (C := C) (S := S) T hM hK hn (nI i) with ⟨wX, wY⟩ | ⟨j, j8, wX, wY, fY⟩
    · exact ⟨a, fun post hp => br_f h (wX _ (br_t rfl (nm_r (nI_1 i) (aX post hp)))), fun post J hp => br_f h (wY _ (br_t rfl (br_t rfl (nm_r (nI_1 i) (aY post J hp)))))⟩
    · by_cases z : V (nI j).toNatClampNeg < x
      · exact ⟨b, fun post hp => br_f h (wX _ (br_f (ds_nn j8) ⟨ds_v j8, br_t z (nm_e (nm_r (nI_1 i) (bX post hp)))⟩)),
          fun post J hp => br_f h (wY _ (br_f ds_10 (fY _ ⟨ds_v j8, br_t z (br_f ds_10 (nm_e (nm_r (nI_1 i) (bY post J hp))))⟩)))⟩
      · by_cases y : V (nI j).toNatClampNeg = x
        · by_cases l : nI e ≤ nI i
          · exact ⟨a, fun post hp => br_f h (wX _ (br_f (ds_nn j8) ⟨ds_v j8, br_f z ⟨ds_v j8, br_t y (br_t l (nm_r (nI_1 i) (aX post hp)))⟩⟩)),
              fun post J hp => br_f h (wY _ (br_f ds_10 (fY _ ⟨ds_v j8, br_f z (fY _ ⟨ds_v j8, br_t y (br_t l (br_t rfl (nm_r (nI_1 i) (aY post J hp))))⟩)⟩)))⟩
          · exact ⟨b, fun post hp => br_f h (wX _ (br_f (ds_nn j8) ⟨ds_v j8, br_f z ⟨ds_v j8, br_t y (br_f l (nm_e (nm_r (nI_1 i) (bX post hp))))⟩⟩)),
              fun post J hp => br_f h (wY _ (br_f ds_10 (fY _ ⟨ds_v j8, br_f z (fY _ ⟨ds_v j8, br_t y (br_f l (br_f ds_10 (nm_e (nm_r (nI_1 i) (bY post J hp)))))⟩)⟩)))⟩
        · exact ⟨a, fun post hp => br_f h (wX _ (br_f (ds_nn j8) ⟨ds_v j8, br_f z ⟨ds_v j8, br_f y (nm_r (nI_1 i) (aX post hp))⟩⟩)),
            fun post J hp => br_f h (wY _ (br_f ds_10 (fY _ ⟨ds_v j8, br_f z (fY _ ⟨ds_v j8, br_f y (br_t rfl (nm_r (nI_1 i) (aY post J hp)))⟩)⟩)))⟩
theorem ds_vwL (T : ds_T m Pa Pb G g) (hM : ds_Z M) (hK : ds_Z K) {n : Nat} (hn : n < 3) (k : Int32) : ∀ d i : Nat, i + d = 8 → ∃ a : Int32,
    (∀ post : Int32 → Prop, post a → wX_viewed_12 post (nI n) k (nI m) D Pa V G M K B S C (d + 1) (nI i)) ∧
    (∀ post : Int32 → Prop, post a → wY_viewed_13 post (nI n) k (nI m) D Pb V M K B C S (d + 1) (nI i)) := by
  intro d
  induction d with
  | zero =>
    intro i hi
    have h : 8 ≤ nI i := nI_le (a := 8) (by omega) (by omega)
    exact ⟨_, fun _ hp => br_t h hp, fun _ hp => br_t h hp⟩
  | succ d ih =>
    intro i hi
    have h : ¬ 8 ≤ nI i := nI_ge (b := 8) (by omega) (by decide)
    obtain ⟨a, aX, aY⟩ := ih (i + 1) (by omega)
    rcases ds_vi (D := D) (V := V) (B := B) (C := C) (S := S) T hM hK hn (nI i) with ⟨wX, wY⟩ | ⟨j, j8, wX, wY, fY⟩
    · exact ⟨a, fun post hp => br_f h (wX _ (br_t rfl (nm_r (nI_1 i) (aX post hp)))), fun post hp => br_f h (wY _ (br_t rfl (nm_r (nI_1 i) (aY post hp))))⟩
    · obtain ⟨p, pX, pY⟩ := ds_plL (D := D) (B := B) (C := C) (S := S) T hM hK hn k (V (nI j).toNatClampNeg) i 8 0 (by omega) 0
      by_cases z : p = k
      · exact ⟨nI i, fun post hp => br_f h (wX _ (br_f (ds_nn j8) ⟨ds_v j8, ⟨_, pX _ (br_t z hp)⟩⟩)), fun post hp => br_f h (wY _ (br_f ds_10 (fY _ ⟨ds_v j8, nm_e ⟨_, pY _ _ (br_t z hp)⟩⟩)))⟩
      · exact ⟨a, fun post hp => br_f h (wX _ (br_f (ds_nn j8) ⟨ds_v j8, ⟨_, pX _ (br_f z (nm_r (nI_1 i) (aX post hp)))⟩⟩)), fun post hp => br_f h (wY _ (br_f ds_10 (fY _ ⟨ds_v j8, nm_e ⟨_, pY _ _ (br_f z (aY post hp))⟩⟩)))⟩
/-! agree -/
theorem ds_agL (hm : m ≤ 80) (hK : ds_Z K) {n o : Nat} (hn : n < 3) (ho : o < 3) : ∀ d i : Nat, i + d = m → ∃ a : Int32,
    (∀ post : Int32 → Prop, post a → wX_agree_18 post (nI n) (nI o) (nI m) D Pa V G M K B S C (d + 1) (nI i)) ∧
    (∀ post : Int32 → Prop, post a → wY_agree_20 post (nI n) (nI o) (nI m) D Pb V M K B C S (d + 1) (nI i)) := by
  intro d
  induction d with
  | zero =>
    intro i hi
    have h : nI m ≤ nI i := nI_le (by omega) (by omega)
    exact ⟨1, fun _ hp => br_t h hp, fun _ hp => br_t h hp⟩
  | succ d ih =>
    intro i hi
    have h : ¬ nI m ≤ nI i := nI_ge (by omega) (by omega)
    have i8 : i < 80 := by omega
    obtain ⟨a, aX, aY⟩ := ih (i + 1) (by omega)
    by_cases z : K (n * 80 + i) = K (o * 80 + i)
    · refine ⟨a, fun post hp => br_f h ⟨ds_vx hn i8, ds_vx ho i8, ?_⟩, fun post hp => br_f h (ds_kn hK hn i8 (ds_kn hK ho i8 (br_t z (nm_r (nI_1 i) (aY post hp)))))⟩
      rw [ds_cx hn i8, ds_cx ho i8]
      exact br_t z (nm_r (nI_1 i) (aX post hp))
    · refine ⟨0, fun post hp => br_f h ⟨ds_vx hn i8, ds_vx ho i8, ?_⟩, fun post hp => br_f h (ds_kn hK hn i8 (ds_kn hK ho i8 (br_f z hp)))⟩
      rw [ds_cx hn i8, ds_cx ho i8]
      exact br_f z hp
end
