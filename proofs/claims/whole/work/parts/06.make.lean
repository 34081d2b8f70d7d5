section
variable {m : Nat} {D Pa Pb V G M K B C S : Nat → Int32} {g : Nat → Nat}
theorem ds_zu {f : Nat → Int32} (h : ds_Z f) {x : Int32} (hx : x = 0 ∨ x = 1) (k : Nat) : ds_Z (upd f k x) := by
  intro j
  rw [ds_ud]
  split
  · exact hx
  · exact h j
theorem ds_gu {f : Nat → Int32} {x : Int32} (hx : ¬ x = 0) (k i : Nat) (h : ¬ f i = 0) : ¬ upd f k x i = 0 := by
  rw [ds_ud]
  split
  · exact hx
  · exact h
theorem ds_Og (hO : ds_O m K B) {n j : Nat} (hj : j < m) (hm : m ≤ 80) (x y : Int32) : ds_O m (upd K (n * 80 + j) x) (upd B (n * 80 + j) y) := by
  intro s r hs hr h8
  have h := hO s r hs hr h8
  rw [ds_un (by omega), ds_un (by omega)]
  exact h
theorem ds_Qg {K' : Nat → Int32} (hQ : ds_Q m D K S) (hg : ∀ i, ¬ K i = 0 → ¬ K' i = 0) {n d : Nat} (hd : d < 8) (hw : ∃ r, r < m ∧ D r = nI d ∧ ¬ K' (n * 80 + r) = 0) (x : Int32) : ds_Q m D K' (upd S (n * 8 + d) x) := by
  intro s e hs he h
  by_cases z : s * 8 + e = n * 8 + d
  · obtain rfl : s = n := by omega
    obtain rfl : e = d := by omega
    exact hw
  · rw [ds_un z] at h
    obtain ⟨r, hr, h1, h2⟩ := hQ s e hs he h
    exact ⟨r, hr, h1, hg _ h2⟩
/-! giveStamp against learn -/
theorem ds_gsX {n d : Nat} (hn : n < 3) (hd : d < 8) {post : SX → Prop} (h : post ((nI m), D, Pa, V, G, M, K, B, (upd S (n * 8 + d) (upd C n (C n + 1) n)), (upd C n (C n + 1)))) : wpX_giveStamp post ((nI m), D, Pa, V, G, M, K, B, S, C) (nI n) (nI d) := by
  have e : (nI n).toNatClampNeg = n := ds_c (by omega)
  refine ⟨ds_w hn, ds_w hn, nm_r (e' := upd C n (C n + 1)) (by rw [e]) ⟨ds_w hn, ds_wx hn hd, nm_r (e' := upd S (n * 8 + d) (upd C n (C n + 1) n)) (by rw [e, ds_dx hn hd]) h⟩⟩
theorem ds_gsY {n d : Nat} (hn : n < 3) (hd : d < 8) {post : SY → Prop} (h : post ((nI m), D, Pb, V, M, K, B, (upd C n (C n + 1)), (upd S (n * 8 + d) (upd C n (C n + 1) n)))) : wpY_learn post ((nI m), D, Pb, V, M, K, B, C, S) (nI n) (nI d) := by
  have e : (nI n).toNatClampNeg = n := ds_c (by omega)
  refine ⟨ds_w hn, ds_w hn, nm_r (e' := upd C n (C n + 1)) (by rw [e]) ⟨ds_w hn, ds_wy hn hd, nm_r (e' := upd S (n * 8 + d) (upd C n (C n + 1) n)) (by rw [e, ds_dy hn hd]) h⟩⟩
/-! the end of make: the store comes to know revision j -/
theorem ds_tl (T : ds_T m Pa Pb G g) (hM : ds_Z M) (hK : ds_Z K) (hB : ds_Z B) (hO : ds_O m K B) (hQ : ds_Q m D K S) {n d j : Nat} (hn : n < 3) (hd : d < 8) (hj : j < m) (hD : D j = nI d) : ∃ (u' : SX) (v' : SY), ds_R u' v' ∧
    (∀ post : Int32 → SX → Prop, post (nI j) u' → wX_make_43 post (nI n) (nI d) (nI j) (nI m) D Pa V G M K B S C) ∧
    (∀ post : Int32 → SY → Prop, post (nI j) v' → wY_make_170 post (nI n) (nI d) (nI j) (nI m) D Pb V M K B C S) := by
  have hm := T.1
  have j8 : j < 80 := by omega
  by_cases z : K (n * 80 + j) = 0
  · refine ⟨((nI m), D, Pa, V, G, M, (upd K (n * 80 + j) 1), (upd B (n * 80 + j) 1), (upd S (n * 8 + d) (upd C n (C n + 1) n)), (upd C n (C n + 1))), ((nI m), D, Pb, V, M, (upd K (n * 80 + j) 1), (upd B (n * 80 + j) 1), (upd C n (C n + 1)), (upd S (n * 8 + d) (upd C n (C n + 1) n))), ?_, fun post hp => ?_, fun post hp => ?_⟩
    · exact ⟨_, _, _, _, _, _, _, _, _, _, _, g, rfl, rfl, T, hM, ds_zu hK (.inr rfl) _, ds_zu hB (.inr rfl) _, ds_Og hO hj hm 1 1,
        ds_Qg hQ (fun i h => ds_gu ds_10 _ i h) hd ⟨j, hj, hD, by rw [ds_us]; exact ds_10⟩ _⟩
    · exact ⟨ds_vx hn j8, ds_bt (ds_cx hn j8) z ⟨ds_vx hn j8, nm_r (e' := upd K (n * 80 + j) 1) (by rw [ds_cx hn j8, ds_b1]) ⟨ds_vx hn j8, nm_r (e' := upd B (n * 80 + j) 1) (by rw [ds_cx hn j8, ds_b1]) (ds_gsX hn hd hp)⟩⟩⟩
    · unfold wY_make_170
      exact ds_kn hK hn j8 (br_t z ⟨ds_vy hn j8, nm_r (e' := upd K (n * 80 + j) 1) (by rw [ds_cy hn j8, ds_b1]) ⟨ds_vy hn j8, nm_r (e' := upd B (n * 80 + j) 1) (by rw [ds_cy hn j8, ds_b1]) (ds_gsY hn hd hp)⟩⟩)
  · refine ⟨((nI m), D, Pa, V, G, M, K, B, S, C), ((nI m), D, Pb, V, M, K, B, C, S), ⟨_, _, _, _, _, _, _, _, _, _, _, g, rfl, rfl, T, hM, hK, hB, hO, hQ⟩, fun post hp => ?_, fun post hp => ?_⟩
    · exact ⟨ds_vx hn j8, ds_bf (ds_cx hn j8) z hp⟩
    · unfold wY_make_170
      exact ds_kn hK hn j8 (br_f z hp)
/-! find against the search in Y's make -/
theorem ds_fiL (hm : m ≤ 80) {n d : Nat} {p p' x k : Int32} (hp : ∀ i, i < m → (Pa i = p ↔ Pb i = p')) : ∀ e i : Nat, i + e = m →
    (∃ j, j < m ∧ D j = nI d ∧ (∀ post : Int32 → Prop, post (nI j) → wX_find_3 post (nI d) p x k (nI m) D Pa V G M K B S C (e + 1) (nI i)) ∧
      (∀ post : Int32 → SY → Prop, wY_make_64 post (nI n) (nI d) p' x k (nI j) (nI m) D Pb V M K B C S → wY_make_3 post (nI n) (nI d) p' x k (nI m) D Pb V M K B C S (e + 1) (nI i))) ∨
    ((∀ post : Int32 → Prop, post (-1000000003) → wX_find_3 post (nI d) p x k (nI m) D Pa V G M K B S C (e + 1) (nI i)) ∧
      (∀ post : Int32 → SY → Prop, wY_make_64 post (nI n) (nI d) p' x k (nI m) (nI m) D Pb V M K B C S → wY_make_3 post (nI n) (nI d) p' x k (nI m) D Pb V M K B C S (e + 1) (nI i))) := by
  intro e
  induction e with
  | zero =>
    intro i hi
    have h : nI m ≤ nI i := nI_le (by omega) (by omega)
    obtain rfl : i = m := by omega
    exact .inr ⟨fun _ hp => br_t h hp, fun _ hp => br_t h hp⟩
  | succ e ih =>
    intro i hi
    have h : ¬ nI m ≤ nI i := nI_ge (by omega) (by omega)
    have i8 : i < 80 := by omega
    have key : (D i = nI d ∧ Pb i = p' ∧ V i = x ∧ M i = k) ∨
        ((∀ post : Int32 → Prop, wX_find_3 post (nI d) p x k (nI m) D Pa V G M K B S C (e + 1) (nI (i + 1)) → wX_find_3 post (nI d) p x k (nI m) D Pa V G M K B S C (e + 1 + 1) (nI i)) ∧
         (∀ post : Int32 → SY → Prop, wY_make_3 post (nI n) (nI d) p' x k (nI m) D Pb V M K B C S (e + 1) (nI (i + 1)) → wY_make_3 post (nI n) (nI d) p' x k (nI m) D Pb V M K B C S (e + 1 + 1) (nI i))) := by
      by_cases h1 : D i = nI d
      · by_cases h2 : Pb i = p'
        · have h2' := (hp i (by omega)).mpr h2
          by_cases h3 : V i = x
          · by_cases h4 : M i = k
            · exact .inl ⟨h1, h2, h3, h4⟩
            · exact .inr ⟨fun post H => br_f h ⟨ds_v i8, ds_bt (ds_c i8) h1 ⟨ds_v i8, ds_bt (ds_c i8) h2' ⟨ds_v i8, ds_bt (ds_c i8) h3 ⟨ds_v i8, ds_bf (ds_c i8) h4 (nm_r (nI_1 i) H)⟩⟩⟩⟩,
                fun post H => br_f h ⟨ds_v i8, ds_bt (ds_c i8) h1 ⟨ds_v i8, ds_bt (ds_c i8) h2 ⟨ds_v i8, ds_bt (ds_c i8) h3 ⟨ds_v i8, ds_bf (ds_c i8) h4 (nm_r (nI_1 i) H)⟩⟩⟩⟩⟩
          · exact .inr ⟨fun post H => br_f h ⟨ds_v i8, ds_bt (ds_c i8) h1 ⟨ds_v i8, ds_bt (ds_c i8) h2' ⟨ds_v i8, ds_bf (ds_c i8) h3 (nm_r (nI_1 i) H)⟩⟩⟩,
              fun post H => br_f h ⟨ds_v i8, ds_bt (ds_c i8) h1 ⟨ds_v i8, ds_bt (ds_c i8) h2 ⟨ds_v i8, ds_bf (ds_c i8) h3 (nm_r (nI_1 i) H)⟩⟩⟩⟩
        · have h2' : ¬ Pa i = p := fun y => h2 ((hp i (by omega)).mp y)
          exact .inr ⟨fun post H => br_f h ⟨ds_v i8, ds_bt (ds_c i8) h1 ⟨ds_v i8, ds_bf (ds_c i8) h2' (nm_r (nI_1 i) H)⟩⟩,
            fun post H => br_f h ⟨ds_v i8, ds_bt (ds_c i8) h1 ⟨ds_v i8, ds_bf (ds_c i8) h2 (nm_r (nI_1 i) H)⟩⟩⟩
      · exact .inr ⟨fun post H => br_f h ⟨ds_v i8, ds_bf (ds_c i8) h1 (nm_r (nI_1 i) H)⟩, fun post H => br_f h ⟨ds_v i8, ds_bf (ds_c i8) h1 (nm_r (nI_1 i) H)⟩⟩
    rcases key with ⟨h1, h2, h3, h4⟩ | ⟨kX, kY⟩
    · have h2' := (hp i (by omega)).mpr h2
      exact .inl ⟨i, by omega, h1, fun post H => br_f h ⟨ds_v i8, ds_bt (ds_c i8) h1 ⟨ds_v i8, ds_bt (ds_c i8) h2' ⟨ds_v i8, ds_bt (ds_c i8) h3 ⟨ds_v i8, ds_bt (ds_c i8) h4 H⟩⟩⟩⟩,
        fun post H => br_f h ⟨ds_v i8, ds_bt (ds_c i8) h1 ⟨ds_v i8, ds_bt (ds_c i8) h2 ⟨ds_v i8, ds_bt (ds_c i8) h3 ⟨ds_v i8, ds_bt (ds_c i8) h4 H⟩⟩⟩⟩⟩
    · rcases ih (i + 1) (by omega) with ⟨j, hj, hD, aX, aY⟩ | ⟨aX, aY⟩
      · exact .inl ⟨j, hj, hD, fun post H => kX post (aX post H), fun post H => kY post (aY post H)⟩
      · exact .inr ⟨fun post H => kX post (aX post H), fun post H => kY post (aY post H)⟩
/-! a new revision -/
theorem ds_Ta (T : ds_T m Pa Pb G g) {p p' : Int32} {k : Nat} (hm : m < 80) (hp : (p = -1000000003 ∧ p' = -1 ∧ k = 1) ∨ ∃ q, q < m ∧ p = nI q ∧ p' = nI q ∧ k = g q + 1) :
    ds_T (m + 1) (upd Pa m p) (upd Pb m p') (upd G m (nI k)) (fun j => if j = m then k else g j) := by
  refine ⟨hm, fun r hr => ?_⟩
  by_cases e : r = m
  · subst e
    rw [ds_us, ds_us, ds_us]
    simp only [if_true]
    rcases hp with ⟨h1, h2, h3⟩ | ⟨q, hq, h1, h2, h3⟩
    · exact ⟨by omega, by omega, by trivial, .inl ⟨h1, h2, h3⟩⟩
    · have := (T.2 q hq).2.1
      exact ⟨by omega, by omega, by trivial, .inr ⟨q, hq, h1, h2, by rw [if_neg (by omega)]; exact h3⟩⟩
  · have hr' : r < m := by omega
    rw [ds_un e, ds_un e, ds_un e]
    simp only [if_neg e]
    obtain ⟨t1, t2, t3, t4⟩ := T.2 r hr'
    refine ⟨t1, t2, t3, ?_⟩
    rcases t4 with h | ⟨q, hq, h1, h2, h3⟩
    · exact .inl h
    · exact .inr ⟨q, hq, h1, h2, by rw [if_neg (by omega)]; exact h3⟩
theorem ds_adX (hm : m < 80) {dd p x k : Int32} {e : Nat} (hk : k = 0 ∨ k = 1) (hg : (p = -1000000003 ∧ e = 1) ∨ ∃ q, q < 80 ∧ p = nI q ∧ nI e = G q + 1) {post : Int32 → SX → Prop}
    (h : post (nI m) ((nI (m + 1)), (upd D m dd), (upd Pa m p), (upd V m x), (upd G m (nI e)), (upd M m k), K, B, S, C)) : wpX_add post ((nI m), D, Pa, V, G, M, K, B, S, C) dd p x k := by
  have ec : (nI m).toNatClampNeg = m := ds_c hm
  have hE : ∀ z : Int32, z = nI e → wX_add_54 post k (nI m) z (nI m) (nI m) (upd D m dd) (upd Pa m p) (upd V m x) G M K B S C := by
    intro z hz
    exact ⟨ds_v hm, nm_r (e' := upd G m (nI e)) (by rw [ec, hz]) ⟨ds_v hm, nm_r (e' := upd M m k) (by rw [ec, ds_bz hk]) (nm_r (nI_1 m) h)⟩⟩
  refine ⟨ds_v hm, nm_r (e' := upd D m dd) (by rw [ec]) ⟨ds_v hm, nm_r (e' := upd Pa m p) (by rw [ec]) ⟨ds_v hm, nm_r (e' := upd V m x) (by rw [ec]) ?_⟩⟩⟩
  rcases hg with ⟨h1, h2⟩ | ⟨q, hq, h1, h2⟩
  · subst h2
    exact br_t h1 (hE 1 rfl)
  · subst h1
    exact br_f (ds_nn hq) ⟨ds_v hq, hE _ (by rw [ds_c hq]; exact h2.symm)⟩
theorem ds_12 (hm : m < 80) (hO : ds_O m K B) {n d : Int32} {post : Int32 → SY → Prop} (H : wY_make_170 post n d (nI m) (nI (m + 1)) D Pb V M K B C S) : ∀ e s : Nat, s + e = 3 → wY_make_120 post n d (nI m) (nI m) (e + 1) (nI s) D Pb V M K B C S := by
  intro e
  induction e with
  | zero =>
    intro s hs
    exact br_t (nI_le (a := 3) (by omega) (by omega)) (nm_r (nI_1 m) H)
  | succ e ih =>
    intro s hs
    have s3 : s < 3 := by omega
    obtain ⟨h1, h2⟩ := hO s m s3 (by omega) hm
    exact br_f (nI_ge (b := 3) s3 (by decide)) ⟨ds_vy s3 hm, nm_r (e' := K) (by rw [ds_cy s3 hm, ds_b0]; exact ds_uv h1) ⟨ds_vy s3 hm, nm_r (e' := B) (by rw [ds_cy s3 hm, ds_b0]; exact ds_uv h2) (nm_r (nI_1 s) (ih (s + 1) (by omega)))⟩⟩
/-- make -/
theorem ds_mk (T : ds_T m Pa Pb G g) (hM : ds_Z M) (hK : ds_Z K) (hB : ds_Z B) (hO : ds_O m K B) (hQ : ds_Q m D K S) {n d : Nat} (hn : n < 3) (hd : d < 8) {p p' k : Int32} (x : Int32) (hk : k = 0 ∨ k = 1)
    (hp : (p = -1000000003 ∧ p' = -1) ∨ ∃ q, q < m ∧ p = nI q ∧ p' = nI q) : ∃ (r : Int32) (u' : SX) (v' : SY), ds_R u' v' ∧
    (∀ post : Int32 → SX → Prop, post r u' → wpX_make post ((nI m), D, Pa, V, G, M, K, B, S, C) (nI n) (nI d) p x k) ∧
    (∀ post : Int32 → SY → Prop, post r v' → wpY_make post ((nI m), D, Pb, V, M, K, B, C, S) (nI n) (nI d) p' x k) := by
  have hm := T.1
  have hpp : ∀ i, i < m → (Pa i = p ↔ Pb i = p') := by
    intro i hi
    rcases hp with ⟨rfl, rfl⟩ | ⟨q, hq, rfl, rfl⟩
    · rcases (T.2 i hi).2.2.2 with ⟨h1, h2, _⟩ | ⟨q, hq, h1, h2, _⟩
      · exact ⟨fun _ => h2, fun _ => h1⟩
      · rw [h1, h2]
        exact ⟨fun e => absurd e (ds_nn (by omega)), fun e => absurd e (ds_n1 (by omega))⟩
    · exact ds_pa T hi (by omega)
  rcases ds_fiL (D := D) (V := V) (G := G) (M := M) (K := K) (B := B) (C := C) (S := S) (n := n) (d := d) (x := x) (k := k) hm hpp m 0 (by omega) with ⟨j, hj, hD, fX, fY⟩ | ⟨fX, fY⟩
  · obtain ⟨u', v', hR, tX, tY⟩ := ds_tl (V := V) (C := C) T hM hK hB hO hQ hn hd hj hD
    refine ⟨nI j, u', v', hR, fun post h => ?_, fun post h => ⟨_, fY _ ?_⟩⟩
    · unfold wpX_make
      exact ⟨_, fX _ (br_f (ds_nn (by omega)) (tX post h))⟩
    · exact br_f (fun e => by rw [ds_80] at e; have := (nI_eq (by omega) (by omega)).mp e; omega) (br_f (fun e => by have := (nI_eq (by omega) (by omega)).mp e; omega) (tY post h))
  · by_cases m8 : m < 80
    · obtain ⟨e, he1, he2⟩ : ∃ e : Nat, ((p = -1000000003 ∧ p' = -1 ∧ e = 1) ∨ ∃ q, q < m ∧ p = nI q ∧ p' = nI q ∧ e = g q + 1) ∧ ((p = -1000000003 ∧ e = 1) ∨ ∃ q, q < 80 ∧ p = nI q ∧ nI e = G q + 1) := by
        rcases hp with ⟨h1, h2⟩ | ⟨q, hq, h1, h2⟩
        · exact ⟨1, .inl ⟨h1, h2, rfl⟩, .inl ⟨h1, rfl⟩⟩
        · exact ⟨g q + 1, .inr ⟨q, hq, h1, h2, rfl⟩, .inr ⟨q, by omega, h1, by rw [(T.2 q hq).2.2.1, nI_1]⟩⟩
      have T' := ds_Ta T m8 he1
      have hO' : ds_O (m + 1) K B := fun s r hs hr h8 => hO s r hs (by omega) h8
      have hQ' : ds_Q (m + 1) (upd D m (nI d)) K S := by
        intro s f hs hf h
        obtain ⟨r, hr, h1, h2⟩ := hQ s f hs hf h
        exact ⟨r, by omega, by rw [ds_un (by omega)]; exact h1, h2⟩
      obtain ⟨u', v', hR, tX, tY⟩ := ds_tl (V := upd V m x) (C := C) T' (ds_zu hM hk m) hK hB hO' hQ' hn hd (show m < m + 1 by omega) ds_us
      refine ⟨nI m, u', v', hR, fun post h => ?_, fun post h => ⟨_, fY _ ?_⟩⟩
      · unfold wpX_make
        exact ⟨_, fX _ (br_t rfl (br_t (nI_lt (b := 80) m8 (by decide)) (ds_adX m8 hk he2 (tX post h))))⟩
      · have ec : (nI m).toNatClampNeg = m := ds_c m8
        exact br_f (fun e => by rw [ds_80] at e; have := (nI_eq (by omega) (by omega)).mp e; omega) (br_t rfl ⟨ds_v m8, nm_r (e' := upd D m (nI d)) (by rw [ec]) ⟨ds_v m8, nm_r (e' := upd Pb m p') (by rw [ec]) ⟨ds_v m8, nm_r (e' := upd V m x) (by rw [ec]) ⟨ds_v m8, nm_r (e' := upd M m k) (by rw [ec, ds_bz hk]) ⟨_, ds_12 m8 hO (tY post h) 3 0 (by omega)⟩⟩⟩⟩⟩)
    · obtain rfl : m = 80 := by omega
      refine ⟨-1000000002, ((nI 80), D, Pa, V, G, M, K, B, S, C), ((nI 80), D, Pb, V, M, K, B, C, S), ⟨_, _, _, _, _, _, _, _, _, C, _, g, rfl, rfl, T, hM, hK, hB, hO, hQ⟩, fun post h => ?_, fun post h => ⟨_, fY _ ?_⟩⟩
      · unfold wpX_make
        exact ⟨_, fX _ (br_t rfl (br_f (nI_nlt (a := 80) (b := 80) (by omega) (by decide)) h))⟩
      · exact br_t rfl h
end
