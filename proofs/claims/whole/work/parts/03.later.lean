section
variable {m : Nat} {D Pa Pb V G M K B C S : Nat → Int32} {g : Nat → Nat}
/-! Y's generation is g -/
theorem ds_gn (T : ds_T m Pa Pb G g) {post : Int32 → Prop} : ∀ r f c : Nat, r < m → r < f → post (nI (c + g r)) → wY_generation_4 post (nI m) D Pb V M K B C S (f + 1) (nI c) (nI r) := by
  have hm := T.1
  intro r
  induction r using Nat.strongRecOn with
  | ind r ih =>
    intro f c hr hf hp
    have h8 : r < 80 := by omega
    obtain ⟨f, rfl⟩ : ∃ e, f = e + 1 := ⟨f - 1, by omega⟩
    rcases (T.2 r hr).2.2.2 with ⟨_, h2, h3⟩ | ⟨q, hq, _, h2, h3⟩
    · refine br_f (nI_pos (by omega)) ⟨ds_v h8, nm_r (e' := -1) (by rw [ds_c h8, h2]) (nm_r (nI_1 c) (br_t ds_neg ?_))⟩
      rw [h3] at hp
      exact hp
    · refine br_f (nI_pos (by omega)) ⟨ds_v h8, nm_r (e' := nI q) (by rw [ds_c h8, h2]) (nm_r (nI_1 c) (ih q hq f (c + 1) (by omega) (by omega) ?_))⟩
      rw [h3, show c + (g q + 1) = c + 1 + g q by omega] at hp
      exact hp
theorem ds_ge (T : ds_T m Pa Pb G g) {post : Int32 → Prop} {r : Nat} (hr : r < m) (hp : post (nI (g r))) : wpY_generation post ((nI m), D, Pb, V, M, K, B, C, S) (nI r) :=
  ⟨r + 1 + 1, ds_gn T r (r + 1) 0 hr (by omega) (by rw [Nat.zero_add]; exact hp)⟩
/-! the comparison at the end -/
theorem ds_cm {a b : Nat} (ha : a < 80) (hb : b < 80) : ∃ c : Int32, (c = 0 ∨ c = 1) ∧ (a = b → c = 0) ∧
    (∀ post : Int32 → Prop, post c → wX_isLater_93 post (nI a) (nI b) (nI m) D Pa V G M K B S C) ∧
    (∀ (post : Int32 → Prop) (f : Nat), Pb a = Pb b → post c → wY_isBehind_42 post (nI m) D Pb V M K B C S (f + 1) (nI a) (nI b)) := by
  have hX : ∀ (post : Int32 → Prop) (c : Int32), ((V a = V b → ((M a = 0 → post 0) ∧ (¬ M a = 0 → (M b = 0 → post 1) ∧ (¬ M b = 0 → post 0)))) ∧ (¬ V a = V b → ((V a ≤ V b → post 0) ∧ (¬ V a ≤ V b → post 1)))) → wX_isLater_93 post (nI a) (nI b) (nI m) D Pa V G M K B S C := by
    intro post c h
    unfold wX_isLater_93
    rw [ds_c ha, ds_c hb]
    exact ⟨ds_v ha, ds_v hb, fun e => ⟨ds_v ha, (h.1 e).1, fun z => ⟨ds_v hb, (h.1 e).2 z⟩⟩, fun e => ⟨ds_v ha, ds_v hb, h.2 e⟩⟩
  have hY : ∀ (post : Int32 → Prop) (f : Nat), Pb a = Pb b → ((V b < V a → post 1) ∧ (¬ V b < V a → ((V a = V b → ((M a = 0 → post 0) ∧ (¬ M a = 0 → (M b = 0 → post 1) ∧ (¬ M b = 0 → post 0)))) ∧ (¬ V a = V b → post 0)))) → wY_isBehind_42 post (nI m) D Pb V M K B C S (f + 1) (nI a) (nI b) := by
    intro post f e h
    rw [wY_isBehind_42]
    dsimp only
    rw [ds_c ha, ds_c hb]
    exact ⟨ds_v ha, ds_v hb, br_t e ⟨ds_v ha, ds_v hb, h.1, fun z => ⟨ds_v ha, ds_v hb, fun y => ⟨ds_v ha, ((h.2 z).1 y).1, fun x => ⟨ds_v hb, ((h.2 z).1 y).2 x⟩⟩, (h.2 z).2⟩⟩⟩
  by_cases e : V a = V b
  · have nl : ¬ V b < V a := by rw [e]; exact fun h => Int32.lt_irrefl h
    by_cases z : M a = 0
    · exact ⟨0, .inl rfl, fun _ => rfl, fun post hp => hX post 0 (br_t e (br_t z hp)), fun post f he hp => hY post f he (br_f nl (br_t e (br_t z hp)))⟩
    · by_cases y : M b = 0
      · exact ⟨1, .inr rfl, fun eb => absurd (eb ▸ y) z, fun post hp => hX post 0 (br_t e (br_f z (br_t y hp))), fun post f he hp => hY post f he (br_f nl (br_t e (br_f z (br_t y hp))))⟩
      · exact ⟨0, .inl rfl, fun _ => rfl, fun post hp => hX post 0 (br_t e (br_f z (br_f y hp))), fun post f he hp => hY post f he (br_f nl (br_t e (br_f z (br_f y hp))))⟩
  · by_cases l : V a ≤ V b
    · have nl : ¬ V b < V a := Int32.not_lt.mpr l
      exact ⟨0, .inl rfl, fun _ => rfl, fun post hp => hX post 0 (br_f e (br_t l hp)), fun post f he hp => hY post f he (br_f nl (br_f e hp))⟩
    · have nl : V b < V a := Int32.not_le.mp l
      exact ⟨1, .inr rfl, fun eb => absurd (congrArg V eb) e, fun post hp => hX post 0 (br_f e (br_f l hp)), fun post f he hp => hY post f he (br_t nl hp)⟩
/-! the walk to the last shared ancestor -/
theorem ds_wk (T : ds_T m Pa Pb G g) : ∀ k a b : Nat, a < m → b < m → g a = k → g b = k → ∃ c : Int32, (c = 0 ∨ c = 1) ∧ (a = b → c = 0) ∧
    (∀ post : Int32 → Prop, post c → wX_isLater_49 post (nI m) D Pa V G M K B S C (k + 1) (nI a) (nI b) (nI k)) ∧
    (∀ post : Int32 → Prop, post c → wY_isBehind_42 post (nI m) D Pb V M K B C S (k + 1) (nI a) (nI b)) := by
  have hm := T.1
  intro k
  induction k with
  | zero =>
    intro a b ha hb ga gb
    have := (T.2 a ha).1
    omega
  | succ k ih =>
    intro a b ha hb ga gb
    have a8 : a < 80 := by omega
    have b8 : b < 80 := by omega
    have hk : k + 1 ≤ 80 := by have := (T.2 a ha).2.1; omega
    obtain ⟨c, hc, hc0, hX, hY⟩ := ds_cm (D := D) (Pa := Pa) (Pb := Pb) (V := V) (G := G) (M := M) (K := K) (B := B) (C := C) (S := S) (m := m) a8 b8
    by_cases e : Pb a = Pb b
    · have e' := (ds_pe T ha hb).mpr e
      refine ⟨c, hc, hc0, fun post hp => br_c (fun _ => hX post hp) (fun _ => ⟨ds_v a8, ds_v b8, ?_⟩), fun post hp => hY post _ e hp⟩
      rw [ds_c a8, ds_c b8]
      exact br_t e' (hX post hp)
    · have e' : ¬ Pa a = Pa b := fun z => e ((ds_pe T ha hb).mp z)
      have ne : a ≠ b := fun z => e (congrArg Pb z)
      rcases (T.2 a ha).2.2.2 with ⟨_, h2, h3⟩ | ⟨q, hq, h1, h2, h3⟩
      · rcases (T.2 b hb).2.2.2 with ⟨_, k2, _⟩ | ⟨p, hp, _, k2, k3⟩
        · exact absurd (h2.trans k2.symm) e
        · have := (T.2 p (by omega)).1
          omega
      · rcases (T.2 b hb).2.2.2 with ⟨_, k2, k3⟩ | ⟨p, hp, k1, k2, k3⟩
        · have := (T.2 q (by omega)).1
          omega
        · have gq : g q = k := by omega
          have gp : g p = k := by omega
          have k1' : 1 ≤ k := by have := (T.2 q (by omega)).1; omega
          obtain ⟨c, hc, _, hX, hY⟩ := ih q p (by omega) (by omega) gq gp
          refine ⟨c, hc, fun z => absurd z ne, fun post hp => ?_, fun post hp => ?_⟩
          · rw [wX_isLater_49]
            refine br_f (nI_ge (a := 1) (by omega) (by omega)) ⟨ds_v a8, ds_v b8, ?_⟩
            rw [ds_c a8, ds_c b8, h1, k1]
            rw [h1, k1] at e'
            exact br_f e' ⟨ds_v a8, nm_e ⟨ds_v b8, nm_e (nm_r (ds_m1 k) (hX post hp))⟩⟩
          · rw [wY_isBehind_42]
            refine ⟨ds_v a8, ds_v b8, ?_⟩
            rw [ds_c a8, ds_c b8, h2, k2]
            rw [h2, k2] at e
            exact br_f e ⟨ds_v a8, nm_e ⟨ds_v b8, nm_e (hY post hp)⟩⟩
/-- X's isLater against Y's isBehind -/
theorem ds_la (T : ds_T m Pa Pb G g) {a b : Nat} (ha : a < m) (hb : b < m) : ∃ c : Int32, (c = 0 ∨ c = 1) ∧
    (∀ post : Int32 → Prop, post c → wpX_isLater post ((nI m), D, Pa, V, G, M, K, B, S, C) (nI a) (nI b)) ∧
    (∀ post : Int32 → Prop, post c → wpY_isBehind post ((nI m), D, Pb, V, M, K, B, C, S) (nI a) (nI b)) := by
  have hm := T.1
  have a8 : a < 80 := by omega
  have b8 : b < 80 := by omega
  obtain ⟨_, ga2, ga, _⟩ := T.2 a ha
  obtain ⟨_, gb2, gb, _⟩ := T.2 b hb
  by_cases e : g a = g b
  · obtain ⟨c, hc, hc0, hX, hY⟩ := ds_wk (D := D) (V := V) (M := M) (K := K) (B := B) (C := C) (S := S) T (g a) a b ha hb rfl e.symm
    refine ⟨c, hc, fun post hp => ?_, fun post hp => ?_⟩
    · refine ⟨ds_v a8, ds_v b8, ?_⟩
      rw [ds_c a8, ds_c b8, ga, gb]
      exact br_t (by rw [e]) ⟨ds_v a8, nm_e ⟨_, hX post hp⟩⟩
    · unfold wpY_isBehind
      refine ds_ge T ha (ds_ge T hb (br_t (by rw [e]) ?_))
      by_cases h : a = b
      · subst h
        have : c = 0 := hc0 rfl
        subst this
        exact br_t rfl (br_t (Int32.le_refl _) hp)
      · exact br_f (fun z => h (ds_nI a8 b8 z)) ⟨_, hY post hp⟩
  · have ne : ¬ nI (g a) = nI (g b) := fun z => e ((nI_eq (by omega) (by omega)).mp z)
    have hX : ∀ (post : Int32 → Prop), ((nI (g a) ≤ nI (g b) → post 0) ∧ (¬ nI (g a) ≤ nI (g b) → post 1)) → wpX_isLater post ((nI m), D, Pa, V, G, M, K, B, S, C) (nI a) (nI b) := by
      intro post h
      refine ⟨ds_v a8, ds_v b8, ?_⟩
      rw [ds_c a8, ds_c b8, ga, gb]
      exact br_f ne ⟨ds_v a8, ds_v b8, h⟩
    have hY : ∀ (post : Int32 → Prop), ((nI (g a) ≤ nI (g b) → post 0) ∧ (¬ nI (g a) ≤ nI (g b) → post 1)) → wpY_isBehind post ((nI m), D, Pb, V, M, K, B, C, S) (nI a) (nI b) := by
      intro post h
      unfold wpY_isBehind
      exact ds_ge T ha (ds_ge T hb (br_f ne h))
    by_cases l : nI (g a) ≤ nI (g b)
    · exact ⟨0, .inl rfl, fun post hp => hX post (br_t l hp), fun post hp => hY post (br_t l hp)⟩
    · exact ⟨1, .inr rfl, fun post hp => hX post (br_f l hp), fun post hp => hY post (br_f l hp)⟩
end
