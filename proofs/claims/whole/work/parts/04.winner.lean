section
variable {m : Nat} {D Pa Pb V G M K B C S : Nat → Int32} {g : Nat → Nat}
/-- no revision, or one that was made -/
def ds_W (m : Nat) (w : Int32) : Prop := w = -1000000003 ∨ ∃ j, j < m ∧ w = nI j
/-! winnerOf against findWinner -/
theorem ds_wiL (T : ds_T m Pa Pb G g) (hM : ds_Z M) (hK : ds_Z K) {n : Nat} (hn : n < 3) (q : Int32) : ∀ d i : Nat, i + d = m → ∀ w : Int32, ds_W m w → ∃ a : Int32, ds_W m a ∧
    (∀ post : Int32 → Prop, post a → wX_winnerOf_6 post (nI n) q (nI m) D Pa V G M K B S C (d + 1) w (nI i)) ∧
    (∀ post : Int32 → Prop, post a → wY_findWinner_6 post (nI n) q (nI m) D Pb V M K B C S (d + 1) w (nI i)) := by
  have hm := T.1
  intro d
  induction d with
  | zero =>
    intro i hi w hw
    have h : nI m ≤ nI i := nI_le (by omega) (by omega)
    exact ⟨w, hw, fun _ hp => br_t h hp, fun _ hp => br_t h hp⟩
  | succ d ih =>
    intro i hi w hw
    have h : ¬ nI m ≤ nI i := nI_ge (by omega) (by omega)
    have i8 : i < 80 := by omega
    obtain ⟨l, hl, lX, lY⟩ := ds_lf (D := D) (V := V) (M := M) (B := B) (C := C) (S := S) T hK hn (show i < m by omega) q
    obtain ⟨a, ha, aX, aY⟩ := ih (i + 1) (by omega) w hw
    rcases hl with rfl | rfl
    · exact ⟨a, ha, fun post hp => br_f h (lX _ (br_t rfl (nm_r (nI_1 i) (aX post hp)))), fun post hp => br_f h (lY _ (br_t rfl (nm_r (nI_1 i) (aY post hp))))⟩
    · obtain ⟨b, hb, bX, bY⟩ := ih (i + 1) (by omega) (nI i) (.inr ⟨i, by omega, rfl⟩)
      rcases hw with rfl | ⟨j, hj, rfl⟩
      · exact ⟨b, hb, fun post hp => br_f h (lX _ (br_f ds_10 (br_t rfl (nm_r (nI_1 i) (bX post hp))))), fun post hp => br_f h (lY _ (br_f ds_10 (br_t rfl (br_f ds_10 (nm_r (nI_1 i) (bY post hp))))))⟩
      · have j8 : j < 80 := by omega
        obtain ⟨c, hc, cX, cY⟩ := ds_la (D := D) (V := V) (M := M) (K := K) (B := B) (C := C) (S := S) T (show i < m by omega) hj
        by_cases e : M i = M j
        · rcases hc with rfl | rfl
          · refine ⟨a, ha, fun post hp => br_f h (lX _ (br_f ds_10 (br_f (ds_nn j8) ⟨ds_v i8, ds_v j8, ?_⟩))), fun post hp => br_f h (lY _ (br_f ds_10 (br_f (ds_nn j8) ⟨ds_v i8, ds_v j8, ?_⟩)))⟩
            · rw [ds_c i8, ds_c j8]
              exact br_t e (cX _ ⟨ds_nb (.inl rfl), br_t rfl (nm_r (nI_1 i) (aX post hp))⟩)
            · rw [ds_c i8, ds_c j8]
              exact br_t e (cY _ (br_t rfl (br_t rfl (nm_r (nI_1 i) (aY post hp)))))
          · refine ⟨b, hb, fun post hp => br_f h (lX _ (br_f ds_10 (br_f (ds_nn j8) ⟨ds_v i8, ds_v j8, ?_⟩))), fun post hp => br_f h (lY _ (br_f ds_10 (br_f (ds_nn j8) ⟨ds_v i8, ds_v j8, ?_⟩)))⟩
            · rw [ds_c i8, ds_c j8]
              exact br_t e (cX _ ⟨ds_nb (.inr rfl), br_f ds_10 (nm_r (nI_1 i) (bX post hp))⟩)
            · rw [ds_c i8, ds_c j8]
              exact br_t e (cY _ (br_f ds_10 (br_f ds_10 (nm_r (nI_1 i) (bY post hp)))))
        · by_cases z : M j = 0
          · refine ⟨a, ha, fun post hp => br_f h (lX _ (br_f ds_10 (br_f (ds_nn j8) ⟨ds_v i8, ds_v j8, ?_⟩))), fun post hp => br_f h (lY _ (br_f ds_10 (br_f (ds_nn j8) ⟨ds_v i8, ds_v j8, ?_⟩)))⟩
            · rw [ds_c i8, ds_c j8]
              exact br_f e ⟨ds_v j8, ds_nb (hM j), br_t z (nm_r (nI_1 i) (aX post hp))⟩
            · rw [ds_c i8, ds_c j8]
              exact br_f e ⟨ds_v j8, br_t z (br_t rfl (nm_r (nI_1 i) (aY post hp)))⟩
          · refine ⟨b, hb, fun post hp => br_f h (lX _ (br_f ds_10 (br_f (ds_nn j8) ⟨ds_v i8, ds_v j8, ?_⟩))), fun post hp => br_f h (lY _ (br_f ds_10 (br_f (ds_nn j8) ⟨ds_v i8, ds_v j8, ?_⟩)))⟩
            · rw [ds_c i8, ds_c j8]
              exact br_f e ⟨ds_v j8, ds_nb (hM j), br_f z (nm_r (nI_1 i) (bX post hp))⟩
            · rw [ds_c i8, ds_c j8]
              exact br_f e ⟨ds_v j8, br_f z (br_f ds_10 (nm_r (nI_1 i) (bY post hp)))⟩
theorem ds_wi (T : ds_T m Pa Pb G g) (hM : ds_Z M) (hK : ds_Z K) {n : Nat} (hn : n < 3) (q : Int32) : ∃ a : Int32, ds_W m a ∧
    (∀ post : Int32 → Prop, post a → wpX_winnerOf post ((nI m), D, Pa, V, G, M, K, B, S, C) (nI n) q) ∧
    (∀ post : Int32 → Prop, post a → wpY_findWinner post ((nI m), D, Pb, V, M, K, B, C, S) (nI n) q) := by
  obtain ⟨a, ha, aX, aY⟩ := ds_wiL (D := D) (V := V) (B := B) (C := C) (S := S) T hM hK hn q m 0 (by omega) (-1000000003) (.inl rfl)
  exact ⟨a, ha, fun post hp => ⟨_, aX post hp⟩, fun post hp => ⟨_, aY post hp⟩⟩
/-! laterLeaves against the inner loop of findLeaf -/
theorem ds_llL (T : ds_T m Pa Pb G g) (hK : ds_Z K) {n r : Nat} (hn : n < 3) (hr : r < m) (q k : Int32) : ∀ d i : Nat, i + d = m → ∀ c : Int32, ∃ a : Int32,
    (∀ post : Int32 → Prop, post a → wX_laterLeaves_6 post (nI n) q (nI r) (nI m) D Pa V G M K B S C (d + 1) c (nI i)) ∧
    (∀ post J : Int32 → Prop, ((a = k → post (nI r)) ∧ (¬ a = k → J (nI (r + 1)))) → wY_findLeaf_29 post J (nI n) q k (nI r) (nI m) D Pb V M K B C S (d + 1) c (nI i)) := by
  have hm := T.1
  intro d
  induction d with
  | zero =>
    intro i hi c
    have h : nI m ≤ nI i := nI_le (by omega) (by omega)
    exact ⟨c, fun _ hp => br_t h hp, fun post J hp => br_t h ⟨hp.1, fun z => nm_r (nI_1 r) (hp.2 z)⟩⟩
  | succ d ih =>
    intro i hi c
    have h : ¬ nI m ≤ nI i := nI_ge (by omega) (by omega)
    obtain ⟨l, hl, lX, lY⟩ := ds_lf (D := D) (V := V) (M := M) (B := B) (C := C) (S := S) T hK hn (show i < m by omega) q
    obtain ⟨a, aX, aY⟩ := ih (i + 1) (by omega) c
    rcases hl with rfl | rfl
    · exact ⟨a, fun post hp => br_f h (lX _ (br_t rfl (nm_r (nI_1 i) (aX post hp)))), fun post J hp => br_f h (lY _ (br_t rfl (nm_r (nI_1 i) (aY post J hp))))⟩
    · obtain ⟨e, he, eX, eY⟩ := ds_la (D := D) (V := V) (M := M) (K := K) (B := B) (C := C) (S := S) T (show i < m by omega) hr
      rcases he with rfl | rfl
      · exact ⟨a, fun post hp => br_f h (lX _ (br_f ds_10 (eX _ (br_t rfl (nm_r (nI_1 i) (aX post hp)))))), fun post J hp => br_f h (lY _ (br_f ds_10 (eY _ (br_t rfl (nm_r (nI_1 i) (aY post J hp))))))⟩
      · obtain ⟨b, bX, bY⟩ := ih (i + 1) (by omega) (c + 1)
        exact ⟨b, fun post hp => br_f h (lX _ (br_f ds_10 (eX _ (br_f ds_10 (nm_e (nm_r (nI_1 i) (bX post hp))))))), fun post J hp => br_f h (lY _ (br_f ds_10 (eY _ (br_f ds_10 (nm_e (nm_r (nI_1 i) (bY post J hp)))))))⟩
/-! leafAt against findLeaf -/
theorem ds_laL (T : ds_T m Pa Pb G g) (hK : ds_Z K) {n : Nat} (hn : n < 3) (q k : Int32) : ∀ d i : Nat, i + d = m → ∃ a : Int32, ds_W m a ∧
    (∀ post : Int32 → Prop, post a → wX_leafAt_3 post (nI n) q k (nI m) D Pa V G M K B S C (d + 1) (nI i)) ∧
    (∀ post : Int32 → Prop, post a → wY_findLeaf_3 post (nI n) q k (nI m) D Pb V M K B C S (d + 1) (nI i)) := by
  have hm := T.1
  intro d
  induction d with
  | zero =>
    intro i hi
    have h : nI m ≤ nI i := nI_le (by omega) (by omega)
    exact ⟨_, .inl rfl, fun _ hp => br_t h hp, fun _ hp => br_t h hp⟩
  | succ d ih =>
    intro i hi
    have h : ¬ nI m ≤ nI i := nI_ge (by omega) (by omega)
    have hi' : i < m := by omega
    obtain ⟨l, hl, lX, lY⟩ := ds_lf (D := D) (V := V) (M := M) (B := B) (C := C) (S := S) T hK hn hi' q
    obtain ⟨a, ha, aX, aY⟩ := ih (i + 1) (by omega)
    rcases hl with rfl | rfl
    · exact ⟨a, ha, fun post hp => br_f h (lX _ (br_t rfl (nm_r (nI_1 i) (aX post hp)))), fun post hp => br_f h (lY _ (br_t rfl (nm_r (nI_1 i) (aY post hp))))⟩
    · obtain ⟨e, eX, eY⟩ := ds_llL (D := D) (V := V) (M := M) (B := B) (C := C) (S := S) T hK hn hi' q k m 0 (by omega) 0
      by_cases z : e = k
      · exact ⟨nI i, .inr ⟨i, hi', rfl⟩, fun post hp => br_f h (lX _ (br_f ds_10 ⟨_, eX _ (br_t z hp)⟩)), fun post hp => br_f h (lY _ (br_f ds_10 ⟨_, eY _ _ (br_t z hp)⟩))⟩
      · exact ⟨a, ha, fun post hp => br_f h (lX _ (br_f ds_10 ⟨_, eX _ (br_f z (nm_r (nI_1 i) (aX post hp)))⟩)), fun post hp => br_f h (lY _ (br_f ds_10 ⟨_, eY _ _ (br_f z (aY post hp))⟩))⟩
theorem ds_at (T : ds_T m Pa Pb G g) (hK : ds_Z K) {n : Nat} (hn : n < 3) (q k : Int32) : ∃ a : Int32, ds_W m a ∧
    (∀ post : Int32 → Prop, post a → wpX_leafAt post ((nI m), D, Pa, V, G, M, K, B, S, C) (nI n) q k) ∧
    (∀ post : Int32 → Prop, post a → wpY_findLeaf post ((nI m), D, Pb, V, M, K, B, C, S) (nI n) q k) := by
  obtain ⟨a, ha, aX, aY⟩ := ds_laL (D := D) (V := V) (M := M) (B := B) (C := C) (S := S) T hK hn q k m 0 (by omega)
  exact ⟨a, ha, fun post hp => ⟨_, aX post hp⟩, fun post hp => ⟨_, aY post hp⟩⟩
/-! the number of leaves -/
theorem ds_lnL (T : ds_T m Pa Pb G g) (hK : ds_Z K) {n : Nat} (hn : n < 3) (q : Int32) : ∀ d i : Nat, i + d = m → ∀ c : Int32, ∃ a : Int32,
    (∀ post : Int32 → Prop, post a → wX_leaves_22 post (nI n) q (nI m) D Pa V G M K B S C (d + 1) c (nI i)) ∧
    (∀ post : Int32 → Prop, post a → wY_countLeaves_6 post (nI n) q 0 (nI m) D Pb V M K B C S (d + 1) c (nI i)) := by
  have hm := T.1
  intro d
  induction d with
  | zero =>
    intro i hi c
    have h : nI m ≤ nI i := nI_le (by omega) (by omega)
    exact ⟨c, fun _ hp => br_t h hp, fun _ hp => br_t h hp⟩
  | succ d ih =>
    intro i hi c
    have h : ¬ nI m ≤ nI i := nI_ge (by omega) (by omega)
    obtain ⟨l, hl, lX, lY⟩ := ds_lf (D := D) (V := V) (M := M) (B := B) (C := C) (S := S) T hK hn (show i < m by omega) q
    rcases hl with rfl | rfl
    · obtain ⟨a, aX, aY⟩ := ih (i + 1) (by omega) c
      exact ⟨a, fun post hp => br_f h (lX _ (br_t rfl (nm_r (nI_1 i) (aX post hp)))), fun post hp => br_f h (lY _ (br_t rfl (nm_r (nI_1 i) (aY post hp))))⟩
    · obtain ⟨a, aX, aY⟩ := ih (i + 1) (by omega) (c + 1)
      exact ⟨a, fun post hp => br_f h (lX _ (br_f ds_10 (nm_e (nm_r (nI_1 i) (aX post hp))))), fun post hp => br_f h (lY _ (br_f ds_10 (br_t rfl (nm_e (nm_r (nI_1 i) (aY post hp))))))⟩
/-! the number of living leaves: isInConflict against countLeaves(.., true) -/
theorem ds_icL (T : ds_T m Pa Pb G g) (hK : ds_Z K) {n : Nat} (hn : n < 3) (q : Int32) : ∀ d i : Nat, i + d = m → ∀ c : Int32, ∃ a : Int32,
    (∀ post : Int32 → Prop, ((a < 2 → post 0) ∧ (¬ a < 2 → post 1)) → wX_isInConflict_5 post (nI n) q (nI m) D Pa V G M K B S C (d + 1) c (nI i)) ∧
    (∀ post : Int32 → Prop, post a → wY_countLeaves_6 post (nI n) q 1 (nI m) D Pb V M K B C S (d + 1) c (nI i)) := by
  have hm := T.1
  intro d
  induction d with
  | zero =>
    intro i hi c
    have h : nI m ≤ nI i := nI_le (by omega) (by omega)
    exact ⟨c, fun _ hp => br_t h hp, fun _ hp => br_t h hp⟩
  | succ d ih =>
    intro i hi c
    have h : ¬ nI m ≤ nI i := nI_ge (by omega) (by omega)
    have i8 : i < 80 := by omega
    obtain ⟨l, hl, lX, lY⟩ := ds_lf (D := D) (V := V) (M := M) (B := B) (C := C) (S := S) T hK hn (show i < m by omega) q
    obtain ⟨a, aX, aY⟩ := ih (i + 1) (by omega) c
    by_cases z : M i = 0
    · rcases hl with rfl | rfl
      · exact ⟨a, fun post hp => br_f h ⟨ds_v i8, ds_bt (ds_c i8) z (lX _ (br_t rfl (nm_r (nI_1 i) (aX post hp))))⟩, fun post hp => br_f h (lY _ (br_t rfl (nm_r (nI_1 i) (aY post hp))))⟩
      · obtain ⟨a, aX, aY⟩ := ih (i + 1) (by omega) (c + 1)
        exact ⟨a, fun post hp => br_f h ⟨ds_v i8, ds_bt (ds_c i8) z (lX _ (br_f ds_10 (nm_e (nm_r (nI_1 i) (aX post hp)))))⟩, fun post hp => br_f h (lY _ (br_f ds_10 (br_f ds_10 ⟨ds_v i8, ds_bt (ds_c i8) z (nm_e (nm_r (nI_1 i) (aY post hp)))⟩)))⟩
    · rcases hl with rfl | rfl
      · exact ⟨a, fun post hp => br_f h ⟨ds_v i8, ds_bf (ds_c i8) z (nm_r (nI_1 i) (aX post hp))⟩, fun post hp => br_f h (lY _ (br_t rfl (nm_r (nI_1 i) (aY post hp))))⟩
      · exact ⟨a, fun post hp => br_f h ⟨ds_v i8, ds_bf (ds_c i8) z (nm_r (nI_1 i) (aX post hp))⟩, fun post hp => br_f h (lY _ (br_f ds_10 (br_f ds_10 ⟨ds_v i8, ds_bf (ds_c i8) z (nm_r (nI_1 i) (aY post hp))⟩)))⟩
theorem ds_21 (a : Int32) : a < 2 ↔ a ≤ 1 := by
  rw [Int32.lt_iff_toInt_lt, Int32.le_iff_toInt_le, show (2 : Int32).toInt = 2 from by decide, show (1 : Int32).toInt = 1 from by decide]
  omega
theorem ds_cfL (T : ds_T m Pa Pb G g) (hK : ds_Z K) {n : Nat} (hn : n < 3) : ∀ d i : Nat, i + d = 8 → ∀ c : Int32, ∃ a : Int32,
    (∀ post : Int32 → Prop, post a → wX_conflicts_14 post (nI n) (nI m) D Pa V G M K B S C (d + 1) c (nI i)) ∧
    (∀ post : Int32 → Prop, post a → wY_conflicts_15 post (nI n) (nI m) D Pb V M K B C S (d + 1) c (nI i)) := by
  intro d
  induction d with
  | zero =>
    intro i hi c
    have h : 8 ≤ nI i := nI_le (a := 8) (by omega) (by omega)
    exact ⟨c, fun _ hp => br_t h hp, fun _ hp => br_t h hp⟩
  | succ d ih =>
    intro i hi c
    have h : ¬ 8 ≤ nI i := nI_ge (b := 8) (by omega) (by decide)
    obtain ⟨l, lX, lY⟩ := ds_icL (D := D) (V := V) (M := M) (B := B) (C := C) (S := S) T hK hn (nI i) m 0 (by omega) 0
    by_cases z : l ≤ 1
    · have z' := (ds_21 l).mpr z
      obtain ⟨a, aX, aY⟩ := ih (i + 1) (by omega) c
      exact ⟨a, fun post hp => br_f h ⟨_, lX _ (br_t z' (br_t rfl (nm_r (nI_1 i) (aX post hp))))⟩, fun post hp => br_f h ⟨_, lY _ (br_t z (nm_r (nI_1 i) (aY post hp)))⟩⟩
    · have z' : ¬ l < 2 := fun y => z ((ds_21 l).mp y)
      obtain ⟨a, aX, aY⟩ := ih (i + 1) (by omega) (c + 1)
      exact ⟨a, fun post hp => br_f h ⟨_, lX _ (br_f z' (br_f ds_10 (nm_e (nm_r (nI_1 i) (aX post hp)))))⟩, fun post hp => br_f h ⟨_, lY _ (br_f z (nm_e (nm_r (nI_1 i) (aY post hp))))⟩⟩
end
