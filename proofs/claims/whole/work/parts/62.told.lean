/-! a parish told in letters: all of it comes to pass, or none -/
def afs (a : AP) (f : Nat → Nat) (j : Nat) : AP := pre (fun j b => tellA b (f (stp f j)) (n1N f (stp f j)) (n2N f (stp f j))) a j
def TOk (a : AP) (f : Nat → Nat) (j : Nat) : Prop := tellOk (afs a f j) (f (stp f j)) (n1N f (stp f j)) (n2N f (stp f j))
theorem afs_good {a : AP} {f : Nat → Nat} {k m : Nat} (g : GP a) (ho : aO a ≤ 999) (hg : GDs f k m) : ∀ j, j ≤ m → (∀ i, i < j → TOk a f i) → GP (afs a f j) ∧ aO (afs a f j) ≤ 999
  | 0, _, _ => ⟨g, ho⟩
  | j + 1, h, ht => by
    obtain ⟨h1, h2⟩ := afs_good g ho hg j (by omega) (fun i hi => ht i (by omega))
    exact tell_good h1 h2 (hg j (by omega)).let (gd_tellB (hg j (by omega))) (ht j (by omega))
theorem sp_beg_t {f : Nat → Nat} {k i : Nat} {t : LT} {post : Int32 → Prop} (h : RLe f k t) (hk : k ≤ 96) (hi : i < k) (hb : i = 0 ∨ f (i - 1) = 59) (q : post 1) : p_X1_beginsAt t (nI i) post := by
  unfold p_X1_beginsAt
  refine bEq i 0 rfl rfl (by omega) (by omega) (fun _ => q) (fun w => ?_)
  rw [show nI i - (1 : Int32) = nI (i - 1) from nI_subN (a := i) (b := 1) (by omega)]
  refine sp_at h hk (by omega) (br_t ?_ q)
  rcases hb with z | z
  · exact absurd z w
  · rw [z]; rfl
theorem sp_beg_f {f : Nat → Nat} {k i : Nat} {t : LT} {post : Int32 → Prop} (h : RLe f k t) (hk : k ≤ 96) (hi : i < k) (h0 : 0 < i) (hb : f (i - 1) ≠ 59) (q : post 0) : p_X1_beginsAt t (nI i) post := by
  unfold p_X1_beginsAt
  refine br_f ?_ ?_
  · intro z
    have := nI_inj (i := i) (j := 0) (by omega) (by omega) z
    omega
  rw [show nI i - (1 : Int32) = nI (i - 1) from nI_subN (a := i) (b := 1) (by omega)]
  refine sp_at h hk (by omega) (br_f ?_ q)
  intro z
  exact hb (nI_inj (j := 59) (by have := (h.2 (i - 1) (by omega)).2; omega) (by omega) z)
theorem GD.no59 {f : Nat → Nat} {k s i : Nat} (gd : GD f k s) (h1 : s < i) (h2 : i < s + 2 + dbN (f s)) : f (i - 1) ≠ 59 := by
  rcases (show i - 1 = s ∨ s < i - 1 by omega) with w | w
  · rw [w]
    rcases gd.let with e | e | e | e | e | e <;> omega
  · have := (gd.dig (e := i - 1 - s) (by omega) (by omega)).2.2
    rw [show s + (i - 1 - s) = i - 1 by omega] at this
    omega
theorem sp_told5 {n mi : PT} {hh : HT} {a : AP} {f : Nat → Nat} {k m : Nat} {t : LT} {post : Int32 → PT × PT × HT → Prop} (h : RLe f k t) (hk : k ≤ 96) (hc : Cln f k m) (hr : RP n a) (g : GP a) (ho : aO a ≤ 999) (q1 : (∀ j, j < m → TOk a f j) → ∀ n' m', RP n' (afs a f m) → post (nI m) (n', m', (hh.1, 0))) (q0 : ∀ j, j < m → (∀ i, i < j → TOk a f i) → ¬ TOk a f j → ∀ m', post ((-2000 : Int32) - nI (stp f j)) (n, m', hh)) : p_X5_tellAll n mi hh t post := by
  obtain ⟨hm, hg, hk2⟩ := hc
  have lt2 := stp_ge f m
  unfold p_X5_tellAll
  refine sp_think5 hr (fun mv hmv => ?_)
  refine lpN_up k (fun i z => z.2.1 = nI i ∧ ∃ j, j ≤ m ∧ z.1 = nI j ∧ i ≤ stp f j ∧ (0 < j → stp f (j - 1) < i) ∧ (∀ i', i' < j → TOk a f i') ∧ RP z.2.2 (afs a f j)) (by omega) ?_ ?_ _ ⟨rfl, 0, by omega, rfl, Nat.zero_le _, fun z => absurd z (by omega), fun i' hi' => absurd hi' (by omega), hmv⟩
  · rintro K i ⟨x3, x4, mv5⟩ hi ⟨e4, j, hj, e3, l1, l2, ht, hv⟩ hK
    dsimp only at e4 e3 hv
    subst e4; subst e3
    have hsz : p_X1_size t (fun r => r = nI k) := h.1
    unfold p_X1_size at hsz ⊢
    refine bLe k i h.1 rfl (by omega) (by omega) (fun w => absurd w (by omega)) (fun _ => ?_)
    rcases (show i = stp f j ∨ i < stp f j by omega) with w | w
    · have hjm : j < m := by
        rcases (show j < m ∨ j = m by omega) with z | z
        · exact z
        · subst z; omega
      have gd := hg j hjm
      obtain ⟨gj, oj⟩ := afs_good g ho hg j hj ht
      refine sp_beg_t h hk hi ?_ (br_f (by decide) ?_)
      · rcases (show j = 0 ∨ 0 < j by omega) with z | z
        · subst z; left; exact w
        · right
          have g1 := (hg (j - 1) (by omega)).end
          have e := stp_s f (j - 1)
          rw [show j - 1 + 1 = j by omega] at e
          rw [show i - 1 = stp f (j - 1) + (dbN (f (stp f (j - 1))) + 1) by omega]
          exact g1
      · rw [w]
        refine sp_tell5 h hk gd hv gj oj (gd_tellB gd) (fun ok m' hm' => ?_) (fun no m' => ?_)
        · refine br_f (by decide) (hK _ ⟨nI_1 _ |>.trans (by rw [w]), j + 1, hjm, nI_1 j, ?_, fun _ => ?_, fun i' hi' => ?_, hm'⟩)
          · have := stp_s f j; omega
          · rw [show j + 1 - 1 = j by omega]; omega
          · rcases (show i' < j ∨ i' = j by omega) with z | z
            · exact ht i' z
            · subst z; exact ok
        · exact br_t rfl (q0 j hjm ht no m')
    · have hj0 : 0 < j := by
        rcases (show j = 0 ∨ 0 < j by omega) with z | z
        · subst z; have : stp f 0 = 0 := rfl; omega
        · exact z
      have l3 := l2 hj0
      have e := stp_s f (j - 1)
      rw [show j - 1 + 1 = j by omega] at e
      refine sp_beg_f h hk hi (by omega) ((hg (j - 1) (by omega)).no59 l3 (by omega)) (br_t rfl (hK _ ⟨nI_1 i, j, hj, rfl, w, fun _ => ?_, ht, hv⟩))
      omega
  · rintro K ⟨x3, x4, mv5⟩ ⟨e4, j, hj, e3, l1, l2, ht, hv⟩
    dsimp only at e4 e3 hv
    subst e4; subst e3
    have hjm : j = m := by
      rcases (show j < m ∨ j = m by omega) with z | z
      · have := stp_lt f z; omega
      · exact z
    subst hjm
    unfold p_X1_size
    refine bLe k k h.1 rfl (by omega) (by omega) (fun _ => ?_) (fun w => absurd w (by omega))
    refine sp_become hv (fun n' hn' => ?_)
    unfold p_X4_forget
    exact q1 ht n' _ hn'
theorem readGo {A B : Prop} {i s k : Nat} {sz : Int32} (hi : i < 1000) (hs : s < 1000) (hk : k < 1000) (hsz : sz = nI k) (h : i = 0 ∨ s < k) (q : A) : ((nI i = 0 → A) ∧ (¬ nI i = 0 → ((sz ≤ nI s → B) ∧ (¬ sz ≤ nI s → A)))) := by
  refine ⟨fun _ => q, fun z => bLe k s hsz rfl (by omega) (by omega) (fun w => ?_) (fun _ => q)⟩
  rcases h with h | h
  · subst h; exact absurd rfl z
  · omega
theorem sp_par6_flt {c : PT} {th td : Int32} {t : LT} {qz : QT} {ks : KS} {kp : F1} {f : Nat → Nat} {k m e : Nat} {post : Int32 → PT × Int32 × LT × QT × KS × Int32 × F1 → Prop} (h : RLe f k t) (hk : k ≤ 96) (hf : Flt f k m e) (q : ∀ qz', post ((-1000 : Int32) - nI (stp f m + e)) (c, 0, (t.1, 0), qz', ks, td, kp)) : p_X6_parish c th t qz ks td kp post := by
  obtain ⟨hg, hm, he, hd, hb⟩ := hf
  have l3 := dbN_le (f (stp f m))
  have lt2 := stp_ge f m
  have mz : stp f 0 = 0 := rfl
  have sm : stp f m ≤ k := by
    rcases hm with z | z
    · subst z; omega
    · omega
  unfold p_X6_parish
  refine lpN_up (m + 1) (fun i z => (i ≤ m ∧ z.2.2.2.1 = nI (stp f i) ∧ z.2.2.2.2.1 = 0 ∧ z.2.2.2.2.2 = nI i) ∨ (i = m + 1 ∧ z.2.2.2.1 = nI (stp f m + e) ∧ z.2.2.2.2.1 = 1)) (by omega) ?_ ?_ _ (Or.inl ⟨Nat.zero_le _, rfl, rfl, rfl⟩)
  · rintro K i ⟨pi, lo, nb, at4, bd5, ss6⟩ hi hI hK
    rcases hI with ⟨i1, i2, i3, i4⟩ | ⟨i1, -⟩
    · dsimp only at i2 i3 i4
      subst i2; subst i3; subst i4
      rcases (show i < m ∨ i = m by omega) with w | w
      · have gd := hg i w
        have hl := gd.lt
        have l2 := stp_ge f i
        refine br_t rfl (readGo (by omega) (by omega) (by omega) h.1 (Or.inr (by omega)) ?_)
        refine sp_rst_ok h hk (by omega) gd (fun pi' lo' nb' d1 d2 d3 => hK _ (Or.inl ⟨w, ?_, rfl, rfl⟩))
        show nI (stp f i + 2 + dbN (f (stp f i))) = nI (stp f (i + 1))
        rw [stp_s]
      · subst w
        refine br_t rfl (readGo (by omega) (by omega) (by omega) h.1 hm ?_)
        exact sp_rst_bad h hk sm (by omega) he hd hb (fun pi' lo' nb' => hK _ (Or.inr ⟨rfl, rfl, rfl⟩))
    · omega
  · rintro K ⟨pi, lo, nb, at4, bd5, ss6⟩ hI
    rcases hI with ⟨i1, -⟩ | ⟨-, i2, i3⟩
    · omega
    · dsimp only at i2 i3
      subst i2; subst i3
      exact br_f (show ¬ (1 : Int32) = 0 by decide) (br_f (show ¬ (1 : Int32) = 0 by decide) (q _))
theorem sp_par6_cln {c : PT} {th td : Int32} {t : LT} {qz : QT} {ks : KS} {kp : F1} {a : AP} {f : Nat → Nat} {k m : Nat} {post : Int32 → PT × Int32 × LT × QT × KS × Int32 × F1 → Prop} (h : RLe f k t) (hk : k ≤ 96) (hc : Cln f k m) (hr : RP c a) (g : GP a) (ho : aO a ≤ 999) (q1 : (∀ j, j < m → TOk a f j) → ∀ c' qz' ks' kp', RP c' (afs a f m) → post (nI m) (c', 0, (t.1, 0), qz', ks', 0, kp')) (q0 : ∀ j, j < m → (∀ i, i < j → TOk a f i) → ¬ TOk a f j → ∀ c' qz' ks' kp', RP c' a → post ((-2000 : Int32) - nI (stp f j)) (c', 0, (t.1, 0), qz', ks', td, kp')) : p_X6_parish c th t qz ks td kp post := by
  obtain ⟨hm, hg, hk2⟩ := hc
  have lt2 := stp_ge f m
  unfold p_X6_parish
  refine lpN_up m (fun i z => z.2.2.2.1 = nI (stp f i) ∧ z.2.2.2.2.1 = 0 ∧ z.2.2.2.2.2 = nI i ∧ TB f i z.1 z.2.1 z.2.2.1) (by omega) ?_ ?_ _ ⟨rfl, rfl, rfl, fun j hj => absurd hj (by omega)⟩
  · rintro K i ⟨pi, lo, nb, at4, bd5, ss6⟩ hi ⟨i2, i3, i4, tb⟩ hK
    dsimp only at i2 i3 i4 tb
    subst i2; subst i3; subst i4
    have gd := hg i hi
    have hl := gd.lt
    have l2 := stp_ge f i
    refine br_t rfl (readGo (by omega) (by omega) (by omega) h.1 (Or.inr (by omega)) ?_)
    refine sp_rst_ok h hk (by omega) gd (fun pi' lo' nb' d1 d2 d3 => hK _ ⟨?_, rfl, rfl, tb.add d1 d2 d3⟩)
    show nI (stp f i + 2 + dbN (f (stp f i))) = nI (stp f (i + 1))
    rw [stp_s]
  · rintro K ⟨pi, lo, nb, at4, bd5, ss6⟩ ⟨i2, i3, i4, tb⟩
    dsimp only at i2 i3 i4 tb
    subst i2; subst i3; subst i4
    refine br_t rfl (br_f ?_ (br_t ?_ (br_t rfl (sp_think6 hr (fun c' ks' kp' hc' hkp => ?_)))))
    · intro z
      have := nI_inj (i := m) (j := 0) (by omega) (by omega) z
      omega
    · show t.2 ≤ nI (stp f m)
      rw [h.1]
      exact nI_le (by omega) (by omega)
    refine lpN_up m (fun i z => z.1 = nI i ∧ (∀ i', i' < i → TOk a f i') ∧ RP z.2 (afs a f i)) (by omega) ?_ ?_ _ ⟨rfl, fun i' hi' => absurd hi' (by omega), hc'⟩
    · rintro K i ⟨x, z⟩ hi ⟨e1, ht, hz⟩ hK
      dsimp only at e1 hz
      subst e1
      have gd := hg i hi
      obtain ⟨gj, oj⟩ := afs_good g ho hg i (by omega) ht
      obtain ⟨t1, t2, t3, t4⟩ := tb i hi
      refine bLe m i rfl rfl (by omega) (by omega) (fun w => absurd w (by omega)) (fun _ => ?_)
      refine sp_tell6 (by omega) gd.let t2 t3 t4 hz gj oj (gd_tellB gd) (fun ok c2 hc2 => ?_) (fun no c2 => ?_)
      · refine br_f (by decide) (hK _ ⟨nI_1 i, fun i' hi' => ?_, hc2⟩)
        rcases (show i' < i ∨ i' = i by omega) with w | w
        · exact ht i' w
        · subst w; exact ok
      · refine br_t rfl (sp_again6 hkp (fun c3 ks3 hc3 => ⟨vin49 (by omega), ?_⟩))
        rw [cl_nI (show i < 2 ^ 31 by omega)]
        show post ((-2000 : Int32) - pi i) _
        rw [t1]
        exact q0 i hi ht no _ _ _ _ hc3
    · rintro K ⟨x, z⟩ ⟨e1, ht, hz⟩
      dsimp only at e1 hz
      subst e1
      exact bLe m m rfl rfl (by omega) (by omega) (fun _ => q1 ht _ _ _ _ hz) (fun w => absurd w (by omega))
