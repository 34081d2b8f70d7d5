/-! how many of the first k cells stand above t -/
def ds_ct (f : Nat → Int32) (t : Int32) : Nat → Nat
  | 0 => 0
  | k + 1 => ds_ct f t k + if f k ≤ t then 0 else 1
theorem ds_ct8 (f : Nat → Int32) (t : Int32) : ∀ k, ds_ct f t k ≤ k := by
  intro k
  induction k with
  | zero => exact Nat.le_refl _
  | succ k ih =>
    rw [ds_ct]
    split <;> omega
theorem ds_ctp {f : Nat → Int32} {t : Int32} : ∀ k j, j < k → ¬ f j ≤ t → 0 < ds_ct f t k := by
  intro k
  induction k with
  | zero => intro j hj; omega
  | succ k ih =>
    intro j hj h
    rw [ds_ct]
    by_cases e : j = k
    · subst e
      rw [if_neg h]
      omega
    · have := ih j (by omega) h
      omega
theorem ds_ctm {f : Nat → Int32} {t t' : Int32} (h : t ≤ t') : ∀ k, ds_ct f t' k ≤ ds_ct f t k := by
  intro k
  induction k with
  | zero => exact Nat.le_refl _
  | succ k ih =>
    rw [ds_ct, ds_ct]
    by_cases e : f k ≤ t
    · rw [if_pos e, if_pos (Int32.le_trans e h)]
      omega
    · rw [if_neg e]
      split <;> omega
theorem ds_ctl {f : Nat → Int32} {t t' : Int32} (h : t ≤ t') : ∀ k j, j < k → ¬ f j ≤ t → f j ≤ t' → ds_ct f t' k < ds_ct f t k := by
  intro k
  induction k with
  | zero => intro j hj; omega
  | succ k ih =>
    intro j hj h1 h2
    rw [ds_ct, ds_ct]
    by_cases e : j = k
    · subst e
      rw [if_neg h1, if_pos h2]
      have := ds_ctm (f := f) h j
      omega
    · have := ih j (by omega) h1 h2
      by_cases e : f k ≤ t
      · rw [if_pos e, if_pos (Int32.le_trans e h)]
        omega
      · rw [if_neg e]
        split <;> omega
theorem ds_ctc {f f' : Nat → Int32} {t : Int32} : ∀ k, (∀ i, i < k → f i = f' i) → ds_ct f t k = ds_ct f' t k := by
  intro k
  induction k with
  | zero => intro _; rfl
  | succ k ih =>
    intro h
    rw [ds_ct, ds_ct, ih (fun i hi => h i (by omega)), h k (by omega)]
section
variable {m : Nat} {D Pa Pb V G M : Nat → Int32} {g : Nat → Nat}
/-- what nextStamped answers on the two sides -/
def ds_N (S : Nat → Int32) (n : Nat) (t x y : Int32) (i : Nat) : Prop :=
  (x = -1000000003 ∧ y = -1) ∨ ∃ j, j < i ∧ x = nI j ∧ y = nI j ∧ ¬ S (n * 8 + j) ≤ t
theorem ds_nxL {K B S C : Nat → Int32} {n : Nat} (hn : n < 3) (t : Int32) : ∀ d i : Nat, i + d = 8 → ∀ x y z : Int32, ((x = -1000000003 ∧ y = -1) ∨ ∃ j, j < i ∧ x = nI j ∧ y = nI j ∧ z = S (n * 8 + j) ∧ ¬ S (n * 8 + j) ≤ t) → ∃ a b : Int32, ds_N S n t a b 8 ∧
    (∀ post : Int32 → Prop, post a → wX_nextStamped_9 post (nI n) t (nI m) D Pa V G M K B S C (d + 1) x z (nI i)) ∧
    (∀ post : Int32 → Prop, post b → wY_nextStamped_5 post (nI n) t (nI m) D Pb V M K B C S (d + 1) y (nI i)) := by
  intro d
  induction d with
  | zero =>
    intro i hi x y z hz
    have h : 8 ≤ nI i := nI_le (a := 8) (by omega) (by omega)
    refine ⟨x, y, ?_, fun _ hp => br_t h hp, fun _ hp => br_t h hp⟩
    rcases hz with h | ⟨j, h1, h2, h3, _, h5⟩
    · exact .inl h
    · exact .inr ⟨j, by omega, h2, h3, h5⟩
  | succ d ih =>
    intro i hi x y z hz
    have h : ¬ 8 ≤ nI i := nI_ge (b := 8) (by omega) (by decide)
    have i8 : i < 8 := by omega
    have hz' : (x = -1000000003 ∧ y = -1) ∨ ∃ j, j < i + 1 ∧ x = nI j ∧ y = nI j ∧ z = S (n * 8 + j) ∧ ¬ S (n * 8 + j) ≤ t := by
      rcases hz with h | ⟨j, h1, h2⟩
      · exact .inl h
      · exact .inr ⟨j, by omega, h2⟩
    have ex : S (nI n * 8 + nI i).toNatClampNeg = S (n * 8 + i) := by rw [ds_dx hn i8]
    have ey : S (8 * nI n + nI i).toNatClampNeg = S (n * 8 + i) := by rw [ds_dy hn i8]
    obtain ⟨a, b, hN, aX, aY⟩ := ih (i + 1) (by omega) x y z hz'
    by_cases l : S (n * 8 + i) ≤ t
    · exact ⟨a, b, hN, fun post hp => br_f h ⟨ds_wx hn i8, nm_r ex (br_t l (nm_r (nI_1 i) (aX post hp)))⟩, fun post hp => br_f h ⟨ds_wy hn i8, nm_r ey (br_t l (nm_r (nI_1 i) (aY post hp)))⟩⟩
    · obtain ⟨a', b', hN', bX, bY⟩ := ih (i + 1) (by omega) (nI i) (nI i) (S (n * 8 + i)) (.inr ⟨i, by omega, rfl, rfl, rfl, l⟩)
      rcases hz with ⟨rfl, rfl⟩ | ⟨j, hj, rfl, rfl, rfl, _⟩
      · exact ⟨a', b', hN', fun post hp => br_f h ⟨ds_wx hn i8, nm_r ex (br_f l (br_t rfl (nm_r (nI_1 i) (bX post hp))))⟩, fun post hp => br_f h ⟨ds_wy hn i8, nm_r ey (br_f l (br_t ds_neg (nm_r (nI_1 i) (bY post hp))))⟩⟩
      · have j8 : j < 8 := by omega
        have ej : (8 * nI n + nI j).toNatClampNeg = n * 8 + j := ds_dy hn j8
        by_cases k : S (n * 8 + j) ≤ S (n * 8 + i)
        · refine ⟨a, b, hN, fun post hp => br_f h ⟨ds_wx hn i8, nm_r ex (br_f l (br_f (ds_nn (by omega)) (br_t k (nm_r (nI_1 i) (aX post hp)))))⟩, fun post hp => br_f h ⟨ds_wy hn i8, nm_r ey (br_f l (br_f (nI_pos (by omega)) ⟨ds_wy hn j8, ?_⟩))⟩⟩
          rw [ej]
          exact br_t k (nm_r (nI_1 i) (aY post hp))
        · refine ⟨a', b', hN', fun post hp => br_f h ⟨ds_wx hn i8, nm_r ex (br_f l (br_f (ds_nn (by omega)) (br_f k (nm_r (nI_1 i) (bX post hp)))))⟩, fun post hp => br_f h ⟨ds_wy hn i8, nm_r ey (br_f l (br_f (nI_pos (by omega)) ⟨ds_wy hn j8, ?_⟩))⟩⟩
          rw [ej]
          exact br_f k (nm_r (nI_1 i) (bY post hp))
theorem ds_nx {K B S C : Nat → Int32} {n : Nat} (hn : n < 3) (t : Int32) : ∃ a b : Int32, ds_N S n t a b 8 ∧
    (∀ post : Int32 → Prop, post a → wpX_nextStamped post ((nI m), D, Pa, V, G, M, K, B, S, C) (nI n) t) ∧
    (∀ post : Int32 → Prop, post b → wpY_nextStamped post ((nI m), D, Pb, V, M, K, B, C, S) (nI n) t) := by
  obtain ⟨a, b, hN, aX, aY⟩ := ds_nxL (m := m) (D := D) (Pa := Pa) (Pb := Pb) (V := V) (G := G) (M := M) (K := K) (B := B) (S := S) (C := C) hn t 8 0 (by omega) (-1000000003) (-1) 0 (.inl ⟨rfl, rfl⟩)
  exact ⟨a, b, hN, fun post hp => ⟨_, aX post hp⟩, fun post hp => ⟨_, aY post hp⟩⟩
/-! the turns of copy -/
theorem ds_cpL (T : ds_T m Pa Pb G g) (hM : ds_Z M) {n o : Nat} (hn : n < 3) (ho : o < 3) (hno : n ≠ o) : ∀ e t : Nat, t + e = 8 → ∀ (K B S C : Nat → Int32) (last c x y : Int32), ds_Z K → ds_Z B → ds_O m K B → ds_Q m D K S → ds_ct (fun i => S (n * 8 + i)) last 8 ≤ e → ds_N S n last x y 8 →
    (∀ post : Int32 → Prop, post x → wpX_nextStamped post ((nI m), D, Pa, V, G, M, K, B, S, C) (nI n) last) → ∃ (a : Int32) (u' : SX) (v' : SY), ds_R u' v' ∧
    (∀ post : Int32 → SX → Prop, post a u' → wX_copy_30 post (nI n) (nI o) (e + 1) c last (nI t) (nI m) D Pa V G M K B S C) ∧
    (∀ post : Int32 → SY → Prop, post a v' → wY_copy_34 post (nI n) (nI o) (e + 1) c y (nI m) D Pb V M K B C S) := by
  have hm := T.1
  intro e
  induction e with
  | zero =>
    intro t ht K B S C last c x y hK hB hO hQ hc hN hX
    have h : 8 ≤ nI t := nI_le (a := 8) (by omega) (by omega)
    rcases hN with ⟨rfl, rfl⟩ | ⟨j, hj, _, _, h3⟩
    · exact ⟨c, ((nI m), D, Pa, V, G, M, K, B, S, C), ((nI m), D, Pb, V, M, K, B, C, S), ⟨_, _, _, _, _, _, _, _, _, _, _, g, rfl, rfl, T, hM, hK, hB, hO, hQ⟩, fun _ hp => br_t h hp, fun _ hp => br_t ds_neg hp⟩
    · have := ds_ctp (f := fun i => S (n * 8 + i)) 8 j hj h3
      omega
  | succ e ih =>
    intro t ht K B S C last c x y hK hB hO hQ hc hN hX
    have h : ¬ 8 ≤ nI t := nI_ge (b := 8) (by omega) (by decide)
    rcases hN with ⟨rfl, rfl⟩ | ⟨j, hj, rfl, rfl, h3⟩
    · exact ⟨c, ((nI m), D, Pa, V, G, M, K, B, S, C), ((nI m), D, Pb, V, M, K, B, C, S), ⟨_, _, _, _, _, _, _, _, _, _, _, g, rfl, rfl, T, hM, hK, hB, hO, hQ⟩, fun _ hp => br_f h (hX _ (br_t rfl hp)), fun _ hp => br_t ds_neg hp⟩
    · have hl : last ≤ S (n * 8 + j) := Int32.le_of_lt (Int32.not_le.mp h3)
      have hct : ds_ct (fun i => S (n * 8 + i)) (S (n * 8 + j)) 8 < ds_ct (fun i => S (n * 8 + i)) last 8 := ds_ctl (f := fun i => S (n * 8 + i)) hl 8 j hj h3 (Int32.le_refl _)
      have ex : S (nI n * 8 + nI j).toNatClampNeg = S (n * 8 + j) := by rw [ds_dx hn hj]
      obtain ⟨w, hw, wX, wY⟩ := ds_haL (D := D) (Pa := Pa) (Pb := Pb) (V := V) (G := G) (M := M) (B := B) (S := S) (C := C) (q := j) hm hK hn ho m 0 (by omega)
      rcases hw with rfl | ⟨rfl, hw⟩
      · obtain ⟨x', y', hN', nX, nY⟩ := ds_nx (m := m) (D := D) (Pa := Pa) (Pb := Pb) (V := V) (G := G) (M := M) (K := K) (B := B) (S := S) (C := C) hn (S (n * 8 + j))
        obtain ⟨a, u', v', hR, aX, aY⟩ := ih (t + 1) (by omega) K B S C (S (n * 8 + j)) c x' y' hK hB hO hQ (by omega) hN' nX
        refine ⟨a, u', v', hR, fun post hp => br_f h (hX _ (br_f (ds_nn (by omega)) ⟨ds_wx hn hj, nm_r ex ⟨_, wX _ (br_t rfl (nm_r (nI_1 t) (aX post hp)))⟩⟩)), fun post hp => br_f (nI_pos (by omega)) ⟨_, wY _ (br_t rfl ⟨ds_wy hn hj, ?_⟩)⟩⟩
        rw [ds_dy hn hj]
        exact nY _ (aY post hp)
      · obtain ⟨K', B', h1, h2, h3', h4, h5, cX, cY⟩ := ds_cdL (D := D) (V := V) (M := M) (S := S) (C := C) T hn ho hj m 0 (by omega) K B hK hB hO
        have hQ' : ds_Q m D K' (upd S (o * 8 + j) (upd C o (C o + 1) o)) := by
          obtain ⟨r, r1, r2, r3⟩ := hw
          exact ds_Qg hQ h4 hj ⟨r, r1, r2, h5 r (by omega) r1 r2 r3⟩ _
        have hS : ∀ i, i < 8 → upd S (o * 8 + j) (upd C o (C o + 1) o) (n * 8 + i) = S (n * 8 + i) := fun i hi => ds_un (by omega)
        obtain ⟨x', y', hN', nX, nY⟩ := ds_nx (m := m) (D := D) (Pa := Pa) (Pb := Pb) (V := V) (G := G) (M := M) (K := K') (B := B') (S := upd S (o * 8 + j) (upd C o (C o + 1) o)) (C := upd C o (C o + 1)) hn (S (n * 8 + j))
        have hct' : ds_ct (fun i => upd S (o * 8 + j) (upd C o (C o + 1) o) (n * 8 + i)) (S (n * 8 + j)) 8 ≤ e := by
          rw [ds_ctc (f' := fun i => S (n * 8 + i)) 8 hS]
          omega
        obtain ⟨a, u', v', hR, aX, aY⟩ := ih (t + 1) (by omega) K' B' _ _ (S (n * 8 + j)) (c + 1) x' y' h1 h2 h3' hQ' hct' hN' nX
        refine ⟨a, u', v', hR, fun post hp => br_f h (hX _ (br_f (ds_nn (by omega)) ⟨ds_wx hn hj, nm_r ex ⟨_, wX _ (br_f ds_10 ⟨_, cX _ (nm_e (nm_r (nI_1 t) (aX post hp)))⟩)⟩⟩)), fun post hp => br_f (nI_pos (by omega)) ⟨_, wY _ (br_f ds_10 ⟨_, cY _ (nm_e ⟨ds_wy hn hj, ?_⟩)⟩)⟩⟩
        rw [ds_dy hn hj, hS j hj]
        exact nY _ (aY post hp)
end
