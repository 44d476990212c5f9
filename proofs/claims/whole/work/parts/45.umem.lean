/-! every fault has a number from 1 to 14 -/
def fK {α β : Type} (z : (Nat × α) ⊕ β) : Prop := ∀ q, z = .inl q → 1 ≤ q.1 ∧ q.1 ≤ 14
theorem fK_l {α β : Type} {f : Nat} {p : α} (h1 : 1 ≤ f) (h2 : f ≤ 14) : fK (.inl (f, p) : (Nat × α) ⊕ β) := by
  intro q h; cases h; exact ⟨h1, h2⟩
theorem fK_r {α β : Type} {b : β} : fK (.inr b : (Nat × α) ⊕ β) := by
  intro q h; cases h
theorem fK_i {α β : Type} {c : Prop} [Decidable c] {z y : (Nat × α) ⊕ β} (h1 : fK z) (h2 : fK y) : fK (if c then z else y) := by
  split
  · exact h1
  · exact h2
theorem fK_zb {z : zR} {g : Nat → zR} (h1 : fK z) (h2 : ∀ a, fK (g a)) : fK (zb z g) := by
  match z, h1 with
  | .inl q, h1 => exact h1
  | .inr a, h1 => exact h2 a
theorem fK_zbyte {t : Nat → Nat} {e v a : Nat} : fK (zbyte t e v a) := fK_i (fK_l (by decide) (by decide)) (fK_i fK_r (fK_l (by decide) (by decide)))
theorem fK_zskip {e n a : Nat} : fK (zskip e n a) := fK_i (fK_l (by decide) (by decide)) fK_r
theorem fK_zzr {t : Nat → Nat} {e : Nat} : ∀ m i, fK (zzr t e m i) := by
  intro m
  induction m with
  | zero => intro i; exact fK_l (by decide) (by decide)
  | succ m ih => intro i; exact fK_i fK_r (ih _)
theorem fK_zshort {t : Nat → Nat} {e a : Nat} : fK (zshort t e a) := fK_i (fK_l (by decide) (by decide)) (fK_i (fK_l (by decide) (by decide)) (fK_i (fK_l (by decide) (by decide)) (fK_i (fK_l (by decide) (by decide)) fK_r)))
theorem fK_zsum {t : Nat → Nat} {e b a : Nat} : fK (zsum t e b a) := fK_i (fK_l (by decide) (by decide)) (fK_i fK_r (fK_l (by decide) (by decide)))
theorem fK_zlong {t : Nat → Nat} {e a : Nat} : fK (zlong t e a) :=
  fK_zb fK_zbyte fun _ => fK_zb fK_zbyte fun _ => fK_zb fK_zbyte fun _ => fK_i (fK_l (by decide) (by decide)) (fK_i (fK_l (by decide) (by decide)) (fK_zb fK_zskip fun _ => fK_zb (fK_i (fK_i (fK_l (by decide) (by decide)) fK_zskip) fK_r) fun _ => fK_zb (fK_i (fK_zzr _ _) fK_r) fun _ => fK_zb (fK_i (fK_zzr _ _) fK_r) fun _ => fK_i fK_zsum fK_r))
theorem fK_zhead {t : Nat → Nat} {e w a : Nat} : fK (zhead t e w a) := fK_i fK_r (fK_i fK_zshort fK_zlong)
theorem fK_zfour {t : Nat → Nat} {e f due a : Nat} {hf : Bool} (h1 : 1 ≤ f) (h2 : f ≤ 14) : fK (zfour t e hf f due a) := fK_i (fK_l (by decide) (by decide)) (fK_i fK_r (fK_l h1 h2))
theorem fK_ztail {t : Nat → Nat} {e w : Nat} {rb : Nat → Nat} {rn mb a : Nat} : fK (ztail t e w rb rn mb a) := fK_i fK_r (fK_i (fK_zfour (by decide) (by decide)) (fK_zb (fK_zfour (by decide) (by decide)) fun _ => fK_zfour (by decide) (by decide)))
theorem fK_syl {t : Nat → Nat} {e a0 : Nat} {g : Nat → Nat} {n : Nat} : ∀ m l w f a, fK (syl t e a0 g n m l w f a) := by
  intro m
  induction m with
  | zero => intro l w f a; exact fK_l (by decide) (by decide)
  | succ m ih => intro l w f a; exact fK_i (fK_l (by decide) (by decide)) (fK_i fK_r (ih _ _ _ _))
theorem fK_zs {t : Nat → Nat} {e : Nat} {g : Nat → Nat} {n a : Nat} : fK (zs t e g n a) := fK_syl _ _ _ _ _
theorem fK_zcol {t : Nat → Nat} {e a : Nat} : fK (zcol t e a) := fK_i (fK_l (by decide) (by decide)) (fK_i (fK_l (by decide) (by decide)) (fK_i fK_r (fK_l (by decide) (by decide))))
theorem fK_zrl {t : Nat → Nat} {e : Nat} {g : Nat → Nat} {due : Nat} : ∀ m many row a, fK (zrl t e g due m many row a) := by
  intro m
  induction m with
  | zero => intro many row a; exact fK_r
  | succ m ih =>
    intro many row a
    unfold zrl
    refine fK_i ?_ fK_r
    have h := fK_zs (t := t) (e := e) (g := g) (n := 19) (a := a)
    split
    · rename_i q hq
      exact fK_l (h q hq).1 (h q hq).2
    · exact fK_i (ih _ _ _) (fK_i (fK_l (by decide) (by decide)) (fK_i (fK_l (by decide) (by decide)) (fK_i (fK_l (by decide) (by decide)) (ih _ _ _))))
theorem fK_zcodes {t : Nat → Nat} {e a : Nat} : fK (zcodes t e a) := by
  unfold zcodes
  refine fK_i (fK_l (by decide) (by decide)) (fK_i (fK_l (by decide) (by decide)) (fK_i (fK_l (by decide) (by decide)) (fK_i (fK_l (by decide) (by decide)) ?_)))
  split
  · rename_i q hq
    have h := fK_zcol q hq
    exact fK_l h.1 h.2
  · split
    · rename_i q hq
      have h := fK_zrl _ _ _ _ q hq
      exact fK_l h.1 h.2
    · exact fK_i fK_r (fK_l (by decide) (by decide))
theorem fK_zplain {t : Nat → Nat} {e a : Nat} {rb : Nat → Nat} {rn : Nat} : fK (zplain t e a rb rn) := fK_i (fK_l (by decide) (by decide)) (fK_i (fK_l (by decide) (by decide)) (fK_i (fK_l (by decide) (by decide)) (fK_i (fK_l (by decide) (by decide)) fK_r)))
theorem fK_zstr {t : Nat → Nat} {e mb : Nat} {gD : Nat → Nat} {nD y a0 : Nat} {s : sS} : fK (zstr t e mb gD nD y a0 s) := by
  unfold zstr
  refine fK_i (fK_l (by decide) (by decide)) (fK_i (fK_l (by decide) (by decide)) ?_)
  split
  · rename_i f p hq
    have h := fK_zs _ hq
    exact fK_l h.1 h.2
  · exact fK_i (fK_l (by decide) (by decide)) (fK_i (fK_l (by decide) (by decide)) (fK_i (fK_l (by decide) (by decide)) (fK_i (fK_l (by decide) (by decide)) fK_r)))
theorem fK_zsyms {t : Nat → Nat} {e mb : Nat} {gL gD : Nat → Nat} {nL nD : Nat} : ∀ m s, fK (zsyms t e mb gL nL gD nD m s) := by
  intro m
  induction m with
  | zero => intro s; exact fK_l (by decide) (by decide)
  | succ m ih =>
    intro s
    unfold zsyms
    split
    · rename_i f p hq
      have h := fK_zs _ hq
      exact fK_l h.1 h.2
    · refine fK_i fK_r (fK_i ?_ (fK_i (fK_l (by decide) (by decide)) (ih _)))
      split
      · rename_i q hq
        have h := fK_zstr _ hq
        exact fK_l h.1 h.2
      · exact ih _
theorem fK_zbody {t : Nat → Nat} {e mb kd : Nat} {s : sS} : fK (zbody t e mb kd s) := by
  unfold zbody
  refine fK_i ?_ (fK_i (fK_zsyms _ _) ?_)
  · split
    · rename_i f p hq
      have h := fK_zplain _ hq
      exact fK_l h.1 h.2
    · exact fK_r
  · split
    · rename_i f p hq
      have h := fK_zcodes _ hq
      exact fK_l h.1 h.2
    · exact fK_zsyms _ _
theorem fK_zblocks {t : Nat → Nat} {e mb : Nat} : ∀ m s, fK (zblocks t e mb m s) := by
  intro m
  induction m with
  | zero => intro s; exact fK_r
  | succ m ih =>
    intro s
    unfold zblocks
    refine fK_i (fK_l (by decide) (by decide)) (fK_i (fK_l (by decide) (by decide)) ?_)
    split
    · rename_i f p st hq
      have h := fK_zbody _ hq
      exact fK_l h.1 h.2
    · exact fK_i fK_r (ih _)
theorem fK_zmem {t : Nat → Nat} {e w : Nat} : ∀ m s, fK (zmem t e w m s) := by
  intro m
  induction m with
  | zero => intro s; exact fK_r
  | succ m ih =>
    intro s
    unfold zmem
    split
    · rename_i f p hq
      have h := fK_zhead _ hq
      exact fK_l h.1 h.2
    split
    · rename_i q hq
      have h := fK_zblocks _ _ _ hq
      exact fK_l h.1 h.2
    split
    · rename_i f p hq
      have h := fK_ztail _ hq
      exact fK_l h.1 h.2
    · exact fK_i (ih _) fK_r
/-- a member's parts end where they may -/
theorem zlong4_le {t : Nat → Nat} {e m b a c : Nat} (ha : a ≤ e) (h : zlong4 t e m b a = .inr c) : a ≤ c ∧ c ≤ e := by
  unfold zlong4 zsum at h
  split at h
  · split at h
    · cases h
    split at h
    · cases h; omega
    · cases h
  · cases h; omega
theorem zb_inr {z : zR} {g : Nat → zR} {c : Nat} (h : zb z g = .inr c) : ∃ a, z = .inr a ∧ g a = .inr c := by
  match z, h with
  | .inr a, h => exact ⟨a, rfl, h⟩
theorem zhead_le {t : Nat → Nat} {e w a c : Nat} (he : e % 8 = 0) (ha : a ≤ e) (h : zhead t e w a = .inr c) : a ≤ c ∧ c ≤ e := by
  unfold zhead at h
  split at h
  · cases h; omega
  split at h
  · unfold zshort at h
    split at h
    · cases h
    split at h
    · cases h
    split at h
    · cases h
    split at h
    · cases h
    · cases h; omega
  · unfold zlong at h
    obtain ⟨a1, h1, h⟩ := zb_inr h
    obtain ⟨a2, h2, h⟩ := zb_inr h
    obtain ⟨a3, h3, h⟩ := zb_inr h
    have q1 := zbyte_le h1
    have q2 := zbyte_le h2
    have q3 := zbyte_le h3
    unfold zlong0 at h
    split at h
    · cases h
    split at h
    · cases h
    obtain ⟨a4, h4, h⟩ := zb_inr h
    have q4 := zskip_le h4
    unfold zlong1 at h
    obtain ⟨a5, h5, h⟩ := zb_inr h
    have q5 : a4 ≤ a5 ∧ a5 ≤ e := by
      split at h5
      · split at h5
        · cases h5
        · have := zskip_le h5; omega
      · cases h5; omega
    unfold zlong2 at h
    obtain ⟨a6, h6, h⟩ := zb_inr h
    have q6 : a5 ≤ a6 ∧ a6 ≤ e := by
      split at h6
      · have := zzr_le _ _ h6; omega
      · cases h6; omega
    unfold zlong3 at h
    obtain ⟨a7, h7, h⟩ := zb_inr h
    have q7 : a6 ≤ a7 ∧ a7 ≤ e := by
      split at h7
      · have := zzr_le _ _ h7; omega
      · cases h7; omega
    have q8 := zlong4_le q7.2 h
    omega
theorem ztail_le {t : Nat → Nat} {e w : Nat} {rb : Nat → Nat} {rn mb a c : Nat} (ha : a ≤ e) (h : ztail t e w rb rn mb a = .inr c) : a ≤ c ∧ c ≤ e ∧ c % 8 = a % 8 ∧ (w = 2 → c = a + 64) := by
  unfold ztail at h
  split at h
  · cases h; omega
  split at h
  · have := zfour_le h; omega
  · obtain ⟨a1, h1, h⟩ := zb_inr h
    have := zfour_le h1
    have := zfour_le h
    omega
theorem zblocks_ok {t : Nat → Nat} (ht : ∀ i, t i < 256) {e mb : Nat} {s' : bS} : ∀ m s, bOK e mb s → zblocks t e mb m s = .inr s' → bOK e mb s' ∧ s.1 ≤ s'.1 := by
  intro m
  induction m with
  | zero => intro s hs h; cases h; exact ⟨hs, Nat.le_refl _⟩
  | succ m ih =>
    intro s hs h
    obtain ⟨h1, h2, h3, h4, h5⟩ := hs
    unfold zblocks at h
    split at h
    · cases h
    split at h
    · cases h
    split at h
    · cases h
    · rename_i a' rb' rn' st' hq
      have q := zbody_ok ht (s := (s.1 + 3, s.2.1, s.2.2.1, s.2.2.2.2.1)) (mb := mb) ⟨by dsimp only; omega, by dsimp only; omega, by dsimp only; omega, fun i => by dsimp only; exact h4 i⟩ hq
      obtain ⟨⟨q1, q2, q3, q4⟩, q5⟩ := q
      dsimp only at q1 q2 q3 q4 q5
      have hb : ∀ td, bOK e mb (a', rb', rn', s.2.2.2.1 + 1, st', td) := fun td => ⟨by dsimp only; omega, by dsimp only; omega, by dsimp only; omega, fun i => by dsimp only; exact q4 i, by dsimp only; omega⟩
      split at h
      · cases h
        exact ⟨hb _, by dsimp only; omega⟩
      · have r := ih _ (hb _) h
        have r2 := r.2
        dsimp only at r2
        exact ⟨r.1, by omega⟩
