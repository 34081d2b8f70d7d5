/-! what is owed -/
def i_Rel (k : Nat) (u : SX) (v : SY) : Prop := ds_R u v
theorem i_up {k : Nat} {u : SX} {v : SY} (h : i_Rel k u v) : i_Rel (k + 5) u v := h
theorem i_vc0 : wpX_init (fun u => wpY_init (fun v => i_Rel 0 u v)) := by
  refine ⟨0, fun _ => 0, fun _ => 0, fun _ => 0, fun _ => 0, fun _ => 0, fun _ => 0, fun _ => 0, fun _ => 0, fun _ => 0, fun _ => 0, fun _ => 0, rfl, rfl, ⟨by omega, fun r hr => by omega⟩, fun _ => .inl rfl, fun _ => .inl rfl, fun _ => .inl rfl, fun _ _ _ _ _ => ⟨rfl, rfl⟩, fun s d _ _ h => absurd rfl h⟩
theorem ds_im (p : Int32) {m : Nat} (hm : m ≤ 80) : p < 0 ∨ (¬ p < 0 ∧ nI m ≤ p) ∨ ∃ j, j < m ∧ p = nI j := by
  by_cases h : p < 0
  · exact .inl h
  · obtain ⟨j, hj, rfl⟩ := nI_of h
    by_cases h2 : j < m
    · exact .inr (.inr ⟨j, h2, rfl⟩)
    · exact .inr (.inl ⟨h, nI_le (by omega) hj⟩)
theorem i_vc_edit {k : Nat} {u : SX} {v : SY} (I : i_Rel k u v) (hk : k + 5 ≤ 2560) (v1 : Int32) (v2 : Int32) (v3 : Int32) : wpX_edit (fun r u' => wpY_edit (fun r' v' => r' = r ∧ i_Rel (k + 5) u' v') v v1 v2 v3) u v1 v2 v3 := by
  have J : i_Rel (k + 5) u v := I
  obtain ⟨m, D, Pa, Pb, V, G, M, K, B, C, S, g, rfl, rfl, T, hM, hK, hB, hO, hQ⟩ := I
  rcases ds_ar v1 v2 with ⟨n, d, hn, hd, rfl, rfl⟩ | ⟨bX, bY⟩
  · obtain ⟨w, hw, wX, wY⟩ := ds_wi (D := D) (V := V) (B := B) (C := C) (S := S) T hM hK hn (nI d)
    rcases hw with rfl | ⟨j, hj, rfl⟩
    · obtain ⟨r, ⟨u1, u2, u3, u4, u5, u6, u7, u8, u9, u10⟩, ⟨w1, w2, w3, w4, w5, w6, w7, w8, w9⟩, hR, mX, mY⟩ := ds_mk (V := V) (C := C) T hM hK hB hO hQ hn hd (k := 0) v3 (.inl rfl) (.inl ⟨rfl, rfl⟩)
      unfold wpX_edit
      refine ds_okX hn hd (wX _ (mX _ ?_))
      unfold wpY_edit
      refine ds_okY hn hd (wY _ (br_t rfl ?_))
      unfold wY_edit_36
      exact mY _ ⟨rfl, hR⟩
    · obtain ⟨r, ⟨u1, u2, u3, u4, u5, u6, u7, u8, u9, u10⟩, ⟨w1, w2, w3, w4, w5, w6, w7, w8, w9⟩, hR, mX, mY⟩ := ds_mk (V := V) (C := C) T hM hK hB hO hQ hn hd (k := 0) v3 (.inl rfl) (.inr ⟨j, hj, rfl, rfl⟩)
      have hm := T.1
      unfold wpX_edit
      refine ds_okX hn hd (wX _ (mX _ ?_))
      unfold wpY_edit
      refine ds_okY hn hd (wY _ (br_f (ds_nn (by omega)) ?_))
      unfold wY_edit_36
      exact mY _ ⟨rfl, hR⟩
  · unfold wpX_edit
    refine bX _ _ ?_
    unfold wpY_edit
    exact bY _ _ _ ⟨rfl, J⟩
theorem i_vc_editLeaf {k : Nat} {u : SX} {v : SY} (I : i_Rel k u v) (hk : k + 5 ≤ 2560) (v1 : Int32) (v2 : Int32) (v3 : Int32) (v4 : Int32) : wpX_editLeaf (fun r u' => wpY_editLeaf (fun r' v' => r' = r ∧ i_Rel (k + 5) u' v') v v1 v2 v3 v4) u v1 v2 v3 v4 := by
  have J : i_Rel (k + 5) u v := I
  obtain ⟨m, D, Pa, Pb, V, G, M, K, B, C, S, g, rfl, rfl, T, hM, hK, hB, hO, hQ⟩ := I
  rcases ds_ar v1 v2 with ⟨n, d, hn, hd, rfl, rfl⟩ | ⟨bX, bY⟩
  · obtain ⟨w, hw, wX, wY⟩ := ds_at (D := D) (V := V) (M := M) (B := B) (C := C) (S := S) T hK hn (nI d) v3
    rcases hw with rfl | ⟨j, hj, rfl⟩
    · unfold wpX_editLeaf
      refine ds_okX hn hd (wX _ (br_t rfl ?_))
      unfold wpY_editLeaf
      exact ds_okY hn hd (wY _ (br_t rfl ⟨rfl, J⟩))
    · obtain ⟨r, ⟨u1, u2, u3, u4, u5, u6, u7, u8, u9, u10⟩, ⟨w1, w2, w3, w4, w5, w6, w7, w8, w9⟩, hR, mX, mY⟩ := ds_mk (V := V) (C := C) T hM hK hB hO hQ hn hd (k := 0) v4 (.inl rfl) (.inr ⟨j, hj, rfl, rfl⟩)
      have hm := T.1
      unfold wpX_editLeaf
      refine ds_okX hn hd (wX _ (br_f (ds_nn (by omega)) (mX _ ?_)))
      unfold wpY_editLeaf
      exact ds_okY hn hd (wY _ (br_f (ds_nn (by omega)) (mY _ ⟨rfl, hR⟩)))
  · unfold wpX_editLeaf
    refine bX _ _ ?_
    unfold wpY_editLeaf
    exact bY _ _ _ ⟨rfl, J⟩
theorem i_vc_delete {k : Nat} {u : SX} {v : SY} (I : i_Rel k u v) (hk : k + 5 ≤ 2560) (v1 : Int32) (v2 : Int32) (v3 : Int32) : wpX_delete (fun r u' => wpY_delete (fun r' v' => r' = r ∧ i_Rel (k + 5) u' v') v v1 v2 v3) u v1 v2 v3 := by
  have J : i_Rel (k + 5) u v := I
  obtain ⟨m, D, Pa, Pb, V, G, M, K, B, C, S, g, rfl, rfl, T, hM, hK, hB, hO, hQ⟩ := I
  rcases ds_ar v1 v2 with ⟨n, d, hn, hd, rfl, rfl⟩ | ⟨bX, bY⟩
  · obtain ⟨w, hw, wX, wY⟩ := ds_at (D := D) (V := V) (M := M) (B := B) (C := C) (S := S) T hK hn (nI d) v3
    rcases hw with rfl | ⟨j, hj, rfl⟩
    · unfold wpX_delete
      refine ds_okX hn hd (wX _ (br_t rfl ?_))
      unfold wpY_delete
      exact ds_okY hn hd (wY _ (br_t rfl ⟨rfl, J⟩))
    · have hm := T.1
      have j8 : j < 80 := by omega
      by_cases z : M j = 0
      · obtain ⟨r, ⟨u1, u2, u3, u4, u5, u6, u7, u8, u9, u10⟩, ⟨w1, w2, w3, w4, w5, w6, w7, w8, w9⟩, hR, mX, mY⟩ := ds_mk (V := V) (C := C) T hM hK hB hO hQ hn hd (k := 1) 0 (.inr rfl) (.inr ⟨j, hj, rfl, rfl⟩)
        unfold wpX_delete
        refine ds_okX hn hd (wX _ (br_f (ds_nn j8) ⟨ds_v j8, ds_bt (ds_c j8) z (mX _ ?_)⟩))
        unfold wpY_delete
        exact ds_okY hn hd (wY _ (br_f (ds_nn j8) ⟨ds_v j8, ds_bt (ds_c j8) z (mY _ ⟨rfl, hR⟩)⟩))
      · unfold wpX_delete
        refine ds_okX hn hd (wX _ (br_f (ds_nn j8) ⟨ds_v j8, ds_bf (ds_c j8) z ?_⟩))
        unfold wpY_delete
        exact ds_okY hn hd (wY _ (br_f (ds_nn j8) ⟨ds_v j8, ds_bf (ds_c j8) z ⟨rfl, J⟩⟩))
  · unfold wpX_delete
    refine bX _ _ ?_
    unfold wpY_delete
    exact bY _ _ _ ⟨rfl, J⟩
theorem i_vc_copy {k : Nat} {u : SX} {v : SY} (I : i_Rel k u v) (hk : k + 5 ≤ 2560) (v1 : Int32) (v2 : Int32) : wpX_copy (fun r u' => wpY_copy (fun r' v' => r' = r ∧ i_Rel (k + 5) u' v') v v1 v2) u v1 v2 := by
  have J : i_Rel (k + 5) u v := I
  obtain ⟨m, D, Pa, Pb, V, G, M, K, B, C, S, g, rfl, rfl, T, hM, hK, hB, hO, hQ⟩ := I
  unfold wpX_copy
  rcases ds_st v1 with ⟨n, hn, rfl⟩ | ⟨bX, bY⟩
  · rcases ds_st v2 with ⟨o, ho, rfl⟩ | ⟨bX, bY⟩
    · by_cases e : n = o
      · subst e
        refine ds_sX hn (ds_sX hn (br_t rfl ?_))
        unfold wpY_copy
        exact ds_sY hn (ds_sY hn (br_t rfl ⟨rfl, J⟩))
      · have e' : ¬ nI n = nI o := fun z => e (ds_nI (by omega) (by omega) z)
        obtain ⟨x, y, hN, nX, nY⟩ := ds_nx (m := m) (D := D) (Pa := Pa) (Pb := Pb) (V := V) (G := G) (M := M) (K := K) (B := B) (S := S) (C := C) hn 0
        obtain ⟨a, u', v', hR, aX, aY⟩ := ds_cpL (D := D) (V := V) T hM hn ho e 8 0 (by omega) K B S C 0 0 x y hK hB hO hQ (ds_ct8 _ _ _) hN nX
        refine ds_sX hn (ds_sX ho (br_f e' ⟨_, aX _ ?_⟩))
        unfold wpY_copy
        exact ds_sY hn (ds_sY ho (br_f e' (nY _ ⟨_, aY _ ⟨rfl, hR⟩⟩)))
    · refine ds_sX hn (bX _ (br_t rfl ?_))
      unfold wpY_copy
      exact ds_sY hn (bY _ _ (br_t rfl ⟨rfl, J⟩))
  · refine bX _ (br_t rfl ?_)
    unfold wpY_copy
    exact bY _ _ (br_t rfl ⟨rfl, J⟩)
theorem i_vc_compact {k : Nat} {u : SX} {v : SY} (I : i_Rel k u v) (hk : k + 5 ≤ 2560) (v1 : Int32) : wpX_compact (fun r u' => wpY_compact (fun r' v' => r' = r ∧ i_Rel (k + 5) u' v') v v1) u v1 := by
  have J : i_Rel (k + 5) u v := I
  obtain ⟨m, D, Pa, Pb, V, G, M, K, B, C, S, g, rfl, rfl, T, hM, hK, hB, hO, hQ⟩ := I
  unfold wpX_compact
  rcases ds_st v1 with ⟨n, hn, rfl⟩ | ⟨bX, bY⟩
  · obtain ⟨a, B', h1, h2, aX, aY⟩ := ds_coL (D := D) (V := V) (M := M) (S := S) (C := C) T hK hn m 0 (by omega) B 0 hB hO
    refine ds_sX hn ⟨_, aX _ ?_⟩
    unfold wpY_compact
    exact ds_sY hn ⟨_, aY _ ⟨rfl, _, _, _, _, _, _, _, _, _, _, _, g, rfl, rfl, T, hM, hK, h1, h2, hQ⟩⟩
  · refine bX _ (br_t rfl ?_)
    unfold wpY_compact
    exact bY _ _ (br_t rfl ⟨rfl, J⟩)
theorem i_vc_purge {k : Nat} {u : SX} {v : SY} (I : i_Rel k u v) (hk : k + 5 ≤ 2560) (v1 : Int32) (v2 : Int32) : wpX_purge (fun r u' => wpY_purge (fun r' v' => r' = r ∧ i_Rel (k + 5) u' v') v v1 v2) u v1 v2 := by
  have J : i_Rel (k + 5) u v := I
  obtain ⟨m, D, Pa, Pb, V, G, M, K, B, C, S, g, rfl, rfl, T, hM, hK, hB, hO, hQ⟩ := I
  unfold wpX_purge
  rcases ds_ar v1 v2 with ⟨n, d, hn, hd, rfl, rfl⟩ | ⟨bX, bY⟩
  · obtain ⟨a, u', v', hR, aX, aY⟩ := ds_pu (V := V) (C := C) T hM hK hB hO hQ hn hd
    refine ds_okX hn hd ⟨_, aX _ ?_⟩
    unfold wpY_purge
    exact ds_okY hn hd ⟨_, aY _ ⟨rfl, hR⟩⟩
  · refine bX _ _ ?_
    unfold wpY_purge
    exact bY _ _ _ ⟨rfl, J⟩
theorem i_vc_revisions {k : Nat} {u : SX} {v : SY} (I : i_Rel k u v) (hk : k + 5 ≤ 2560) : wpX_revisions (fun r => wpY_revisions (fun r' => r' = r ∧ i_Rel (k + 5) u v) v) u := by
  have J : i_Rel (k + 5) u v := I
  obtain ⟨m, D, Pa, Pb, V, G, M, K, B, C, S, g, rfl, rfl, T, hM, hK, hB, hO, hQ⟩ := I
  exact ⟨rfl, J⟩
theorem i_vc_revision {k : Nat} {u : SX} {v : SY} (I : i_Rel k u v) (hk : k + 5 ≤ 2560) (v1 : Int32) (v2 : Int32) : wpX_revision (fun r => wpY_revision (fun r' => r' = r ∧ i_Rel (k + 5) u v) v v1 v2) u v1 v2 := by
  have J : i_Rel (k + 5) u v := I
  obtain ⟨m, D, Pa, Pb, V, G, M, K, B, C, S, g, rfl, rfl, T, hM, hK, hB, hO, hQ⟩ := I
  have hm := T.1
  by_cases h0 : v2 < 0
  · exact br_t h0 (br_t h0 ⟨rfl, J⟩)
  · by_cases h3 : v2 ≤ 3
    · rcases ds_im v1 hm with h | ⟨h, h'⟩ | ⟨r, hr, rfl⟩
      · exact br_f h0 (br_t h3 (br_t h (br_t rfl (br_f h0 (br_t h3 (br_t h ⟨rfl, J⟩))))))
      · exact br_f h0 (br_t h3 (br_f h (br_t h' (br_t rfl (br_f h0 (br_t h3 (br_f h (br_f (Int32.not_lt.mpr h') ⟨rfl, J⟩))))))))
      · have r8 : r < 80 := by omega
        obtain ⟨w, hw, rfl⟩ := nI_of2 (M := 3) (n := 3) (by decide) h0 h3
        have c0 : ¬ nI r < 0 := nI_pos (by omega)
        have c1 : ¬ nI m ≤ nI r := nI_ge hr (by omega)
        have c2 : nI r < nI m := nI_lt hr (by omega)
        have hY : ∀ post : Int32 → Prop, ((2 ≤ nI w → ((nI w = 2 → wpY_generation (fun r_9 => post r_9) ((nI m), D, Pb, V, M, K, B, C, S) (nI r)) ∧ (¬ nI w = 2 → (vp_in (nI r) 80 ∧ ((M (nI r).toNatClampNeg = 0 → post 0) ∧ (¬ M (nI r).toNatClampNeg = 0 → post 1)))))) ∧
            (¬ 2 ≤ nI w → ((nI w = 0 → (vp_in (nI r) 80 ∧ post (D (nI r).toNatClampNeg))) ∧ (¬ nI w = 0 → (vp_in (nI r) 80 ∧ ((0 ≤ Pb (nI r).toNatClampNeg → (vp_in (nI r) 80 ∧ post (Pb (nI r).toNatClampNeg))) ∧ (¬ 0 ≤ Pb (nI r).toNatClampNeg → post (-1000000003)))))))) → wpY_revision post ((nI m), D, Pb, V, M, K, B, C, S) (nI r) (nI w) :=
          fun post H => br_f h0 (br_t h3 (br_f c0 (br_t c2 H)))
        obtain ⟨g1, g2, g3, g4⟩ := T.2 r hr
        obtain rfl | rfl | rfl | rfl : w = 0 ∨ w = 1 ∨ w = 2 ∨ w = 3 := by omega
        · exact br_f h0 (br_t h3 (br_f c0 (br_f c1 (br_f ds_10 (br_f h0 (br_f (by decide) (br_t (by decide) ⟨ds_v r8, hY _ (br_f (by decide) (br_t (by decide) ⟨ds_v r8, rfl, J⟩))⟩)))))))
        · refine br_f h0 (br_t h3 (br_f c0 (br_f c1 (br_f ds_10 (br_f h0 (br_f (by decide) (br_f (by decide) (br_t (by decide) ⟨ds_v r8, hY _ (br_f (by decide) (br_f (by decide) ⟨ds_v r8, ?_⟩))⟩))))))))
          rw [ds_c r8]
          rcases g4 with ⟨p1, p2, _⟩ | ⟨q, hq, p1, p2, _⟩
          · rw [p1, p2]
            exact br_f (by decide) ⟨rfl, J⟩
          · rw [p1, p2]
            exact br_t (nI_pos' (by omega)) ⟨ds_v r8, rfl, J⟩
        · refine br_f h0 (br_t h3 (br_f c0 (br_f c1 (br_f ds_10 (br_f h0 (br_f (by decide) (br_f (by decide) (br_f (by decide) (br_t (by decide) ⟨ds_v r8, hY _ (br_t (by decide) (br_t (by decide) (ds_ge T hr ⟨?_, J⟩)))⟩)))))))))
          rw [ds_c r8, g3]
        · by_cases z : M (nI r).toNatClampNeg = 0
          · exact br_f h0 (br_t h3 (br_f c0 (br_f c1 (br_f ds_10 (br_f h0 (br_t (by decide) ⟨ds_v r8, br_t z (hY _ (br_t (by decide) (br_f (by decide) ⟨ds_v r8, br_t z ⟨rfl, J⟩⟩)))⟩))))))
          · exact br_f h0 (br_t h3 (br_f c0 (br_f c1 (br_f ds_10 (br_f h0 (br_t (by decide) ⟨ds_v r8, br_f z (hY _ (br_t (by decide) (br_f (by decide) ⟨ds_v r8, br_f z ⟨rfl, J⟩⟩)))⟩))))))
    · exact br_f h0 (br_f h3 (br_f h0 (br_f h3 ⟨rfl, J⟩)))
theorem i_vc_knows {k : Nat} {u : SX} {v : SY} (I : i_Rel k u v) (hk : k + 5 ≤ 2560) (v1 : Int32) (v2 : Int32) : wpX_knows (fun r => wpY_knows (fun r' => r' = r ∧ i_Rel (k + 5) u v) v v1 v2) u v1 v2 := by
  have J : i_Rel (k + 5) u v := I
  obtain ⟨m, D, Pa, Pb, V, G, M, K, B, C, S, g, rfl, rfl, T, hM, hK, hB, hO, hQ⟩ := I
  have hm := T.1
  unfold wpX_knows
  rcases ds_st v1 with ⟨n, hn, rfl⟩ | ⟨bX, bY⟩
  · refine ds_sX hn ?_
    have hY : ∀ post : Int32 → Prop, ((v2 < 0 → post 0) ∧ (¬ v2 < 0 → ((nI m ≤ v2 → post 0) ∧ (¬ nI m ≤ v2 → wpY_knowsIt (fun r_14 => (r_14 = 0 → post 0) ∧ (¬ r_14 = 0 → post 1)) ((nI m), D, Pb, V, M, K, B, C, S) (nI n) v2)))) → wpY_knows post ((nI m), D, Pb, V, M, K, B, C, S) (nI n) v2 := by
      intro post H
      unfold wpY_knows
      exact ds_sY hn H
    rcases ds_im v2 hm with h | ⟨h, h'⟩ | ⟨r, hr, rfl⟩
    · exact br_t h (br_t rfl (hY _ (br_t h ⟨rfl, J⟩)))
    · exact br_f h (br_t h' (br_t rfl (hY _ (br_f h (br_t h' ⟨rfl, J⟩)))))
    · have r8 : r < 80 := by omega
      have c0 : ¬ nI r < 0 := nI_pos (by omega)
      have c1 : ¬ nI m ≤ nI r := nI_ge hr (by omega)
      by_cases z : K (n * 80 + r) = 0
      · exact br_f c0 (br_f c1 (br_f ds_10 ⟨ds_vx hn r8, ds_bt (ds_cx hn r8) z (hY _ (br_f c0 (br_f c1 (ds_kn hK hn r8 (br_t z ⟨rfl, J⟩)))))⟩))
      · exact br_f c0 (br_f c1 (br_f ds_10 ⟨ds_vx hn r8, ds_bf (ds_cx hn r8) z (hY _ (br_f c0 (br_f c1 (ds_kn hK hn r8 (br_f z ⟨rfl, J⟩)))))⟩))
  · refine bX _ (br_t rfl ?_)
    unfold wpY_knows
    exact bY _ _ (br_t rfl ⟨rfl, J⟩)
theorem i_vc_body {k : Nat} {u : SX} {v : SY} (I : i_Rel k u v) (hk : k + 5 ≤ 2560) (v1 : Int32) (v2 : Int32) : wpX_body (fun r => wpY_body (fun r' => r' = r ∧ i_Rel (k + 5) u v) v v1 v2) u v1 v2 := by
  have J : i_Rel (k + 5) u v := I
  obtain ⟨m, D, Pa, Pb, V, G, M, K, B, C, S, g, rfl, rfl, T, hM, hK, hB, hO, hQ⟩ := I
  have hm := T.1
  unfold wpX_body
  rcases ds_st v1 with ⟨n, hn, rfl⟩ | ⟨bX, bY⟩
  · refine ds_sX hn ?_
    have hY : ∀ post : Int32 → Prop, ((v2 < 0 → post (-1000000003)) ∧ (¬ v2 < 0 → ((nI m ≤ v2 → post (-1000000003)) ∧ (¬ nI m ≤ v2 → wpY_knowsIt (fun r_14 => (r_14 = 0 → post (-1000000003)) ∧ (¬ r_14 = 0 → (vp_in (80 * nI n + v2) 240 ∧ ((B (80 * nI n + v2).toNatClampNeg = 0 → post (-1000000004)) ∧ (¬ B (80 * nI n + v2).toNatClampNeg = 0 → (vp_in v2 80 ∧ post (V v2.toNatClampNeg))))))) ((nI m), D, Pb, V, M, K, B, C, S) (nI n) v2)))) → wpY_body post ((nI m), D, Pb, V, M, K, B, C, S) (nI n) v2 := by
      intro post H
      unfold wpY_body
      exact ds_sY hn H
    rcases ds_im v2 hm with h | ⟨h, h'⟩ | ⟨r, hr, rfl⟩
    · exact br_t h (br_t rfl (hY _ (br_t h ⟨rfl, J⟩)))
    · exact br_f h (br_t h' (br_t rfl (hY _ (br_f h (br_t h' ⟨rfl, J⟩)))))
    · have r8 : r < 80 := by omega
      have c0 : ¬ nI r < 0 := nI_pos (by omega)
      have c1 : ¬ nI m ≤ nI r := nI_ge hr (by omega)
      by_cases z : K (n * 80 + r) = 0
      · exact br_f c0 (br_f c1 (br_f ds_10 ⟨ds_vx hn r8, ds_bt (ds_cx hn r8) z (hY _ (br_f c0 (br_f c1 (ds_kn hK hn r8 (br_t z ⟨rfl, J⟩)))))⟩))
      · by_cases y : B (n * 80 + r) = 0
        · exact br_f c0 (br_f c1 (br_f ds_10 ⟨ds_vx hn r8, ds_bf (ds_cx hn r8) z ⟨ds_vx hn r8, ds_bt (ds_cx hn r8) y (hY _ (br_f c0 (br_f c1 (ds_kn hK hn r8 (br_f z ⟨ds_vy hn r8, ds_bt (ds_cy hn r8) y ⟨rfl, J⟩⟩)))))⟩⟩))
        · exact br_f c0 (br_f c1 (br_f ds_10 ⟨ds_vx hn r8, ds_bf (ds_cx hn r8) z ⟨ds_vx hn r8, ds_bf (ds_cx hn r8) y ⟨ds_v r8, hY _ (br_f c0 (br_f c1 (ds_kn hK hn r8 (br_f z ⟨ds_vy hn r8, ds_bf (ds_cy hn r8) y ⟨ds_v r8, rfl, J⟩⟩))))⟩⟩⟩))
  · refine bX _ (br_t rfl ?_)
    unfold wpY_body
    exact bY _ _ (br_t rfl ⟨rfl, J⟩)
theorem i_vc_winner {k : Nat} {u : SX} {v : SY} (I : i_Rel k u v) (hk : k + 5 ≤ 2560) (v1 : Int32) (v2 : Int32) : wpX_winner (fun r => wpY_winner (fun r' => r' = r ∧ i_Rel (k + 5) u v) v v1 v2) u v1 v2 := by
  have J : i_Rel (k + 5) u v := I
  obtain ⟨m, D, Pa, Pb, V, G, M, K, B, C, S, g, rfl, rfl, T, hM, hK, hB, hO, hQ⟩ := I
  unfold wpX_winner
  rcases ds_ar v1 v2 with ⟨n, d, hn, hd, rfl, rfl⟩ | ⟨bX, bY⟩
  · obtain ⟨w, hw, wX, wY⟩ := ds_wi (D := D) (V := V) (B := B) (C := C) (S := S) T hM hK hn (nI d)
    refine ds_okX hn hd (wX _ ?_)
    unfold wpY_winner
    exact ds_okY hn hd (wY _ ⟨rfl, J⟩)
  · refine bX _ _ ?_
    unfold wpY_winner
    exact bY _ _ _ ⟨rfl, J⟩
theorem i_vc_leaves {k : Nat} {u : SX} {v : SY} (I : i_Rel k u v) (hk : k + 5 ≤ 2560) (v1 : Int32) (v2 : Int32) : wpX_leaves (fun r => wpY_leaves (fun r' => r' = r ∧ i_Rel (k + 5) u v) v v1 v2) u v1 v2 := by
  have J : i_Rel (k + 5) u v := I
  obtain ⟨m, D, Pa, Pb, V, G, M, K, B, C, S, g, rfl, rfl, T, hM, hK, hB, hO, hQ⟩ := I
  unfold wpX_leaves
  rcases ds_ar v1 v2 with ⟨n, d, hn, hd, rfl, rfl⟩ | ⟨bX, bY⟩
  · obtain ⟨w, wX, wY⟩ := ds_lnL (D := D) (V := V) (M := M) (B := B) (C := C) (S := S) T hK hn (nI d) m 0 (by omega) 0
    refine ds_okX hn hd ⟨_, wX _ ?_⟩
    unfold wpY_leaves
    exact ds_okY hn hd ⟨_, wY _ ⟨rfl, J⟩⟩
  · refine bX _ _ ?_
    unfold wpY_leaves
    exact bY _ _ _ ⟨rfl, J⟩
theorem i_vc_leaf {k : Nat} {u : SX} {v : SY} (I : i_Rel k u v) (hk : k + 5 ≤ 2560) (v1 : Int32) (v2 : Int32) (v3 : Int32) : wpX_leaf (fun r => wpY_leaf (fun r' => r' = r ∧ i_Rel (k + 5) u v) v v1 v2 v3) u v1 v2 v3 := by
  have J : i_Rel (k + 5) u v := I
  obtain ⟨m, D, Pa, Pb, V, G, M, K, B, C, S, g, rfl, rfl, T, hM, hK, hB, hO, hQ⟩ := I
  unfold wpX_leaf
  rcases ds_ar v1 v2 with ⟨n, d, hn, hd, rfl, rfl⟩ | ⟨bX, bY⟩
  · obtain ⟨w, hw, wX, wY⟩ := ds_at (D := D) (V := V) (M := M) (B := B) (C := C) (S := S) T hK hn (nI d) v3
    refine ds_okX hn hd (wX _ ?_)
    unfold wpY_leaf
    exact ds_okY hn hd (wY _ ⟨rfl, J⟩)
  · refine bX _ _ ?_
    unfold wpY_leaf
    exact bY _ _ _ ⟨rfl, J⟩
theorem i_vc_conflicts {k : Nat} {u : SX} {v : SY} (I : i_Rel k u v) (hk : k + 5 ≤ 2560) (v1 : Int32) : wpX_conflicts (fun r => wpY_conflicts (fun r' => r' = r ∧ i_Rel (k + 5) u v) v v1) u v1 := by
  have J : i_Rel (k + 5) u v := I
  obtain ⟨m, D, Pa, Pb, V, G, M, K, B, C, S, g, rfl, rfl, T, hM, hK, hB, hO, hQ⟩ := I
  unfold wpX_conflicts
  rcases ds_st v1 with ⟨n, hn, rfl⟩ | ⟨bX, bY⟩
  · obtain ⟨w, wX, wY⟩ := ds_cfL (D := D) (V := V) (M := M) (B := B) (C := C) (S := S) T hK hn 8 0 (by omega) 0
    refine ds_sX hn ⟨_, wX _ ?_⟩
    unfold wpY_conflicts
    exact ds_sY hn ⟨_, wY _ ⟨rfl, J⟩⟩
  · refine bX _ (br_t rfl ?_)
    unfold wpY_conflicts
    exact bY _ _ (br_t rfl ⟨rfl, J⟩)
theorem i_vc_count {k : Nat} {u : SX} {v : SY} (I : i_Rel k u v) (hk : k + 5 ≤ 2560) (v1 : Int32) : wpX_count (fun r => wpY_count (fun r' => r' = r ∧ i_Rel (k + 5) u v) v v1) u v1 := by
  have J : i_Rel (k + 5) u v := I
  obtain ⟨m, D, Pa, Pb, V, G, M, K, B, C, S, g, rfl, rfl, T, hM, hK, hB, hO, hQ⟩ := I
  unfold wpX_count
  rcases ds_st v1 with ⟨n, hn, rfl⟩ | ⟨bX, bY⟩
  · refine ds_sX hn ⟨ds_w hn, ?_⟩
    unfold wpY_count
    exact ds_sY hn ⟨ds_w hn, rfl, J⟩
  · refine bX _ (br_t rfl ?_)
    unfold wpY_count
    exact bY _ _ (br_t rfl ⟨rfl, J⟩)
theorem i_vc_stamp {k : Nat} {u : SX} {v : SY} (I : i_Rel k u v) (hk : k + 5 ≤ 2560) (v1 : Int32) (v2 : Int32) : wpX_stamp (fun r => wpY_stamp (fun r' => r' = r ∧ i_Rel (k + 5) u v) v v1 v2) u v1 v2 := by
  have J : i_Rel (k + 5) u v := I
  obtain ⟨m, D, Pa, Pb, V, G, M, K, B, C, S, g, rfl, rfl, T, hM, hK, hB, hO, hQ⟩ := I
  unfold wpX_stamp
  rcases ds_ar v1 v2 with ⟨n, d, hn, hd, rfl, rfl⟩ | ⟨bX, bY⟩
  · refine ds_okX hn hd ⟨ds_wx hn hd, ?_⟩
    unfold wpY_stamp
    exact ds_okY hn hd ⟨ds_wy hn hd, by rw [ds_dx hn hd, ds_dy hn hd], J⟩
  · refine bX _ _ ?_
    unfold wpY_stamp
    exact bY _ _ _ ⟨rfl, J⟩
theorem i_vc_size {k : Nat} {u : SX} {v : SY} (I : i_Rel k u v) (hk : k + 5 ≤ 2560) (v1 : Int32) : wpX_size (fun r => wpY_size (fun r' => r' = r ∧ i_Rel (k + 5) u v) v v1) u v1 := by
  have J : i_Rel (k + 5) u v := I
  obtain ⟨m, D, Pa, Pb, V, G, M, K, B, C, S, g, rfl, rfl, T, hM, hK, hB, hO, hQ⟩ := I
  unfold wpX_size
  rcases ds_st v1 with ⟨n, hn, rfl⟩ | ⟨bX, bY⟩
  · obtain ⟨w, wX, wY⟩ := ds_siL (D := D) (V := V) (B := B) (C := C) (S := S) T hM hK hn 8 0 (by omega) 0
    refine ds_sX hn ⟨_, wX _ ?_⟩
    unfold wpY_size
    exact ds_sY hn ⟨_, wY _ ⟨rfl, J⟩⟩
  · refine bX _ (br_t rfl ?_)
    unfold wpY_size
    exact bY _ _ (br_t rfl ⟨rfl, J⟩)
theorem i_vc_viewed {k : Nat} {u : SX} {v : SY} (I : i_Rel k u v) (hk : k + 5 ≤ 2560) (v1 : Int32) (v2 : Int32) : wpX_viewed (fun r => wpY_viewed (fun r' => r' = r ∧ i_Rel (k + 5) u v) v v1 v2) u v1 v2 := by
  have J : i_Rel (k + 5) u v := I
  obtain ⟨m, D, Pa, Pb, V, G, M, K, B, C, S, g, rfl, rfl, T, hM, hK, hB, hO, hQ⟩ := I
  unfold wpX_viewed
  rcases ds_st v1 with ⟨n, hn, rfl⟩ | ⟨bX, bY⟩
  · obtain ⟨w, wX, wY⟩ := ds_vwL (D := D) (V := V) (B := B) (C := C) (S := S) T hM hK hn v2 8 0 (by omega)
    refine ds_sX hn ⟨_, wX _ ?_⟩
    unfold wpY_viewed
    exact ds_sY hn ⟨_, wY _ ⟨rfl, J⟩⟩
  · refine bX _ (br_t rfl ?_)
    unfold wpY_viewed
    exact bY _ _ (br_t rfl ⟨rfl, J⟩)
theorem i_vc_below {k : Nat} {u : SX} {v : SY} (I : i_Rel k u v) (hk : k + 5 ≤ 2560) (v1 : Int32) (v2 : Int32) : wpX_below (fun r => wpY_below (fun r' => r' = r ∧ i_Rel (k + 5) u v) v v1 v2) u v1 v2 := by
  have J : i_Rel (k + 5) u v := I
  obtain ⟨m, D, Pa, Pb, V, G, M, K, B, C, S, g, rfl, rfl, T, hM, hK, hB, hO, hQ⟩ := I
  unfold wpX_below
  rcases ds_st v1 with ⟨n, hn, rfl⟩ | ⟨bX, bY⟩
  · obtain ⟨w, wX, wY⟩ := ds_beL (D := D) (V := V) (B := B) (C := C) (S := S) T hM hK hn v2 8 0 (by omega) 0
    refine ds_sX hn ⟨_, wX _ ?_⟩
    unfold wpY_below
    exact ds_sY hn ⟨_, wY _ ⟨rfl, J⟩⟩
  · refine bX _ (br_t rfl ?_)
    unfold wpY_below
    exact bY _ _ (br_t rfl ⟨rfl, J⟩)
theorem i_vc_total {k : Nat} {u : SX} {v : SY} (I : i_Rel k u v) (hk : k + 5 ≤ 2560) (v1 : Int32) : wpX_total (fun r => wpY_total (fun r' => r' = r ∧ i_Rel (k + 5) u v) v v1) u v1 := by
  have J : i_Rel (k + 5) u v := I
  obtain ⟨m, D, Pa, Pb, V, G, M, K, B, C, S, g, rfl, rfl, T, hM, hK, hB, hO, hQ⟩ := I
  unfold wpX_total
  rcases ds_st v1 with ⟨n, hn, rfl⟩ | ⟨bX, bY⟩
  · obtain ⟨w, wX, wY⟩ := ds_toL (D := D) (V := V) (B := B) (C := C) (S := S) T hM hK hn 8 0 (by omega) 0
    refine ds_sX hn ⟨_, wX _ ?_⟩
    unfold wpY_total
    exact ds_sY hn ⟨_, wY _ ⟨rfl, J⟩⟩
  · refine bX _ (br_t rfl ?_)
    unfold wpY_total
    exact bY _ _ (br_t rfl ⟨rfl, J⟩)
theorem i_vc_agree {k : Nat} {u : SX} {v : SY} (I : i_Rel k u v) (hk : k + 5 ≤ 2560) (v1 : Int32) (v2 : Int32) : wpX_agree (fun r => wpY_agree (fun r' => r' = r ∧ i_Rel (k + 5) u v) v v1 v2) u v1 v2 := by
  have J : i_Rel (k + 5) u v := I
  obtain ⟨m, D, Pa, Pb, V, G, M, K, B, C, S, g, rfl, rfl, T, hM, hK, hB, hO, hQ⟩ := I
  unfold wpX_agree
  rcases ds_st v1 with ⟨n, hn, rfl⟩ | ⟨bX, bY⟩
  · rcases ds_st v2 with ⟨o, ho, rfl⟩ | ⟨bX, bY⟩
    · obtain ⟨w, wX, wY⟩ := ds_agL (D := D) (Pa := Pa) (Pb := Pb) (V := V) (G := G) (M := M) (B := B) (C := C) (S := S) T.1 hK hn ho m 0 (by omega)
      refine ds_sX hn (ds_sX ho ⟨_, wX _ ?_⟩)
      unfold wpY_agree
      exact ds_sY hn (ds_sY ho ⟨_, wY _ ⟨rfl, J⟩⟩)
    · refine ds_sX hn (bX _ (br_t rfl ?_))
      unfold wpY_agree
      exact ds_sY hn (bY _ _ (br_t rfl ⟨rfl, J⟩))
  · refine bX _ (br_t rfl ?_)
    unfold wpY_agree
    exact bY _ _ (br_t rfl ⟨rfl, J⟩)
