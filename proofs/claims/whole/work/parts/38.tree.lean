-- ===== trees =====
abbrev Tm : Type := Lean.Data.AC.Expr
def tS : Tm → Nat
  | .var _ => 1
  | .op a b => tS a + tS b + 1
def sb (f : Nat → Tm) : Tm → Tm
  | .var v => f v
  | .op a b => .op (sb f a) (sb f b)
def pol : Tm → List Nat
  | .var v => [v]
  | .op a b => 99 :: (pol a ++ pol b)
def ocs (v : Nat) : Tm → Prop
  | .var w => w = v
  | .op a b => ocs v a ∨ ocs v b
def bel (n : Nat) (t : Tm) : Prop := ∀ v, ocs v t → v < n
theorem bel_op {n : Nat} {a b : Tm} : bel n (.op a b) ↔ bel n a ∧ bel n b :=
  ⟨fun h => ⟨fun v hv => h v (Or.inl hv), fun v hv => h v (Or.inr hv)⟩, fun h v hv => hv.elim (h.1 v) (h.2 v)⟩
theorem bel_var {n v : Nat} : bel n (.var v) ↔ v < n := ⟨fun h => h v rfl, fun h w hw => by have : v = w := hw; omega⟩
theorem bel_mono {n k : Nat} {t : Tm} (h : bel n t) (hk : n ≤ k) : bel k t := fun v hv => Nat.lt_of_lt_of_le (h v hv) hk
theorem tS_pos (t : Tm) : 0 < tS t := by cases t <;> simp [tS]
theorem pol_len (t : Tm) : (pol t).length = tS t := by
  induction t with
  | var v => rfl
  | op a b iha ihb => simp [pol, tS, iha, ihb]
theorem sb_sb (f g : Nat → Tm) (t : Tm) : sb f (sb g t) = sb (fun v => sb f (g v)) t := by
  induction t with
  | var v => rfl
  | op a b iha ihb => simp only [sb, iha, ihb]
theorem sb_var (t : Tm) : sb .var t = t := by
  induction t with
  | var v => rfl
  | op a b iha ihb => simp only [sb, iha, ihb]
theorem sb_congr {f g : Nat → Tm} {t : Tm} (h : ∀ v, ocs v t → f v = g v) : sb f t = sb g t := by
  induction t with
  | var v => exact h v rfl
  | op a b iha ihb => simp only [sb]; rw [iha (fun v hv => h v (Or.inl hv)), ihb (fun v hv => h v (Or.inr hv))]
theorem sb_inv {f g : Nat → Tm} {t : Tm} (h : sb f t = sb g t) : ∀ v, ocs v t → f v = g v := by
  induction t with
  | var v => intro w hw; have : v = w := hw; subst this; exact h
  | op a b iha ihb =>
    simp only [sb] at h
    have h1 : sb f a = sb g a := by injection h
    have h2 : sb f b = sb g b := by injection h
    intro v hv
    exact hv.elim (iha h1 v) (ihb h2 v)
theorem ocs_sz {f : Nat → Tm} {v : Nat} {t : Tm} (h : ocs v t) : tS (f v) ≤ tS (sb f t) := by
  induction t with
  | var w => have : w = v := h; subst this; exact Nat.le_refl _
  | op a b iha ihb =>
    simp only [sb, tS]
    rcases h with h | h
    · have := iha h; omega
    · have := ihb h; omega
theorem ocs_op {f : Nat → Tm} {v : Nat} {a b : Tm} (h : ocs v (.op a b)) : tS (f v) < tS (sb f (.op a b)) := by
  simp only [sb, tS]
  rcases h with h | h
  · have := ocs_sz (f := f) h; omega
  · have := ocs_sz (f := f) h; omega
-- one variable replaced
def s1 (v : Nat) (s : Tm) : Nat → Tm := fun w => if w = v then s else .var w
theorem s1_not {v : Nat} {s t : Tm} (h : ¬ ocs v t) : sb (s1 v s) t = t := by
  have : sb (s1 v s) t = sb .var t := sb_congr (fun w hw => by
    unfold s1
    rw [if_neg]
    intro e
    exact h (e ▸ hw))
  rw [this, sb_var]
theorem s1_abs {τ : Nat → Tm} {v : Nat} {s : Tm} (h : τ v = sb τ s) (t : Tm) : sb τ (sb (s1 v s) t) = sb τ t := by
  rw [sb_sb]
  apply sb_congr
  intro w _
  unfold s1
  by_cases e : w = v
  · rw [if_pos e, e, h]
  · rw [if_neg e]; rfl
theorem s1_ocs {v w : Nat} {s t : Tm} (h : ocs w (sb (s1 v s) t)) : ocs w t ∨ ocs w s := by
  induction t with
  | var u =>
    simp only [sb, s1] at h
    by_cases e : u = v
    · rw [if_pos e] at h; exact Or.inr h
    · rw [if_neg e] at h; exact Or.inl h
  | op a b iha ihb =>
    rcases h with h | h
    · rcases iha h with h | h
      · exact Or.inl (Or.inl h)
      · exact Or.inr h
    · rcases ihb h with h | h
      · exact Or.inl (Or.inr h)
      · exact Or.inr h
-- a part that is not the whole
def psb (t : Tm) : Tm → Prop
  | .var _ => False
  | .op a b => (t = a ∨ psb t a) ∨ (t = b ∨ psb t b)
theorem psb_sb (f : Nat → Tm) {t s : Tm} (h : psb t s) : psb (sb f t) (sb f s) := by
  induction s with
  | var v => exact h.elim
  | op a b iha ihb =>
    rcases h with (h | h) | (h | h)
    · exact Or.inl (Or.inl (by rw [h]))
    · exact Or.inl (Or.inr (iha h))
    · exact Or.inr (Or.inl (by rw [h]))
    · exact Or.inr (Or.inr (ihb h))
theorem psb_sz {t s : Tm} (h : psb t s) : tS t < tS s := by
  induction s with
  | var v => exact h.elim
  | op a b iha ihb =>
    simp only [tS]
    rcases h with (h | h) | (h | h)
    · rw [h]; omega
    · have := iha h; omega
    · rw [h]; omega
    · have := ihb h; omega
theorem psb_l {a b s : Tm} (h : psb (.op a b) s) : psb a s := by
  induction s with
  | var v => exact h.elim
  | op c d ihc ihd =>
    rcases h with (h | h) | (h | h)
    · exact Or.inl (Or.inr (by rw [← h]; exact Or.inl (Or.inl rfl)))
    · exact Or.inl (Or.inr (ihc h))
    · exact Or.inr (Or.inr (by rw [← h]; exact Or.inl (Or.inl rfl)))
    · exact Or.inr (Or.inr (ihd h))
theorem psb_r {a b s : Tm} (h : psb (.op a b) s) : psb b s := by
  induction s with
  | var v => exact h.elim
  | op c d ihc ihd =>
    rcases h with (h | h) | (h | h)
    · exact Or.inl (Or.inr (by rw [← h]; exact Or.inr (Or.inl rfl)))
    · exact Or.inl (Or.inr (ihc h))
    · exact Or.inr (Or.inr (by rw [← h]; exact Or.inr (Or.inl rfl)))
    · exact Or.inr (Or.inr (ihd h))
-- ===== names in the order of their first places =====
def ixo (ns : List Nat) (c : Nat) : Nat := ns.idxOf c
def cn (ns : List Nat) : List Nat → List Nat
  | [] => []
  | c :: cs => if c = 99 then 99 :: cn ns cs else if c ∈ ns then ixo ns c :: cn ns cs else ns.length :: cn (ns ++ [c]) cs
def nm (ns : List Nat) : List Nat → List Nat
  | [] => ns
  | c :: cs => if c = 99 then nm ns cs else if c ∈ ns then nm ns cs else nm (ns ++ [c]) cs
theorem cn_len (cs : List Nat) : ∀ ns, (cn ns cs).length = cs.length := by
  induction cs with
  | nil => intro ns; rfl
  | cons c cs ih =>
    intro ns
    unfold cn
    by_cases h : c = 99
    · simp [h, ih]
    · by_cases h2 : c ∈ ns
      · simp [h, h2, ih]
      · simp [h, h2, ih]
theorem cn_app (xs : List Nat) : ∀ ns ys, cn ns (xs ++ ys) = cn ns xs ++ cn (nm ns xs) ys := by
  induction xs with
  | nil => intro ns ys; rfl
  | cons c cs ih =>
    intro ns ys
    by_cases h : c = 99
    · simp [cn, nm, h, ih]
    · by_cases h2 : c ∈ ns
      · simp [cn, nm, h, h2, ih]
      · simp [cn, nm, h, h2, ih]
theorem nm_app (xs : List Nat) : ∀ ns ys, nm ns (xs ++ ys) = nm (nm ns xs) ys := by
  induction xs with
  | nil => intro ns ys; rfl
  | cons c cs ih =>
    intro ns ys
    by_cases h : c = 99
    · simp [nm, h, ih]
    · by_cases h2 : c ∈ ns
      · simp [nm, h, h2, ih]
      · simp [nm, h, h2, ih]
theorem nm_pre (cs : List Nat) : ∀ ns, ∃ zs, nm ns cs = ns ++ zs := by
  induction cs with
  | nil => intro ns; exact ⟨[], by simp [nm]⟩
  | cons c cs ih =>
    intro ns
    by_cases h : c = 99
    · obtain ⟨zs, hz⟩ := ih ns; exact ⟨zs, by simp [nm, h, hz]⟩
    · by_cases h2 : c ∈ ns
      · obtain ⟨zs, hz⟩ := ih ns; exact ⟨zs, by simp [nm, h, h2, hz]⟩
      · obtain ⟨zs, hz⟩ := ih (ns ++ [c]); exact ⟨[c] ++ zs, by simp [nm, h, h2, hz]⟩
theorem nm_mem (cs : List Nat) : ∀ ns v, v ∈ nm ns cs ↔ v ∈ ns ∨ (v ∈ cs ∧ v ≠ 99) := by
  induction cs with
  | nil => intro ns v; simp [nm]
  | cons c cs ih =>
    intro ns v
    by_cases h : c = 99
    · simp only [nm, h, ↓reduceIte, ih, List.mem_cons]
      constructor
      · rintro (h1 | h1)
        · exact Or.inl h1
        · exact Or.inr ⟨Or.inr h1.1, h1.2⟩
      · rintro (h1 | ⟨h1 | h1, h2⟩)
        · exact Or.inl h1
        · exact absurd h1 h2
        · exact Or.inr ⟨h1, h2⟩
    · by_cases h2 : c ∈ ns
      · simp only [nm, h, h2, ↓reduceIte, ih, List.mem_cons]
        constructor
        · rintro (h1 | h1)
          · exact Or.inl h1
          · exact Or.inr ⟨Or.inr h1.1, h1.2⟩
        · rintro (h1 | ⟨h1 | h1, h3⟩)
          · exact Or.inl h1
          · exact Or.inl (h1 ▸ h2)
          · exact Or.inr ⟨h1, h3⟩
      · simp only [nm, h, h2, ↓reduceIte, ih, List.mem_cons, List.mem_append, List.not_mem_nil, or_false]
        constructor
        · rintro ((h1 | h1) | h1)
          · exact Or.inl h1
          · exact Or.inr ⟨Or.inl h1, h1 ▸ h⟩
          · exact Or.inr ⟨Or.inr h1.1, h1.2⟩
        · rintro (h1 | ⟨h1 | h1, h3⟩)
          · exact Or.inl (Or.inl h1)
          · exact Or.inl (Or.inr h1)
          · exact Or.inr ⟨h1, h3⟩
theorem idx_app {ns zs : List Nat} {c : Nat} (h : c ∈ ns) : ixo (ns ++ zs) c = ixo ns c := by
  unfold ixo
  rw [List.idxOf_append, if_pos h]
theorem idx_new {ns zs : List Nat} {c : Nat} (h : ¬ c ∈ ns) : ixo (ns ++ [c] ++ zs) c = ns.length := by
  unfold ixo
  rw [List.append_assoc, List.idxOf_append, if_neg h]
  simp
theorem cn_idx (cs : List Nat) : ∀ ns, cn ns cs = cs.map (fun c => if c = 99 then 99 else ixo (nm ns cs) c) := by
  induction cs with
  | nil => intro ns; rfl
  | cons c cs ih =>
    intro ns
    by_cases h : c = 99
    · simp [cn, nm, h, ih]
    · by_cases h2 : c ∈ ns
      · simp only [cn, nm, h, h2, ↓reduceIte, List.map_cons, ih]
        obtain ⟨zs, hz⟩ := nm_pre cs ns
        rw [hz, idx_app h2]
      · simp only [cn, nm, h, h2, ↓reduceIte, List.map_cons, ih]
        obtain ⟨zs, hz⟩ := nm_pre cs (ns ++ [c])
        rw [hz, idx_new h2]
def fx (f : Nat → Nat) (c : Nat) : Nat := if c = 99 then 99 else f c
theorem idx_map {f : Nat → Nat} {c : Nat} : ∀ {ns : List Nat}, (∀ a ∈ ns, f a = f c → a = c) → ixo (ns.map f) (f c) = ixo ns c
  | [], _ => rfl
  | a :: ns, h => by
    unfold ixo
    rw [List.map_cons, List.idxOf_cons, List.idxOf_cons]
    by_cases e : a = c
    · simp [e]
    · have e2 : ¬ f a = f c := fun e3 => e (h a (List.mem_cons_self ..) e3)
      have := idx_map (f := f) (c := c) (ns := ns) (fun b hb => h b (List.mem_cons_of_mem _ hb))
      unfold ixo at this
      rw [show (f a == f c) = false from by simp [e2], show (a == c) = false from by simp [e], this]
theorem cn_map {f : Nat → Nat} (cs : List Nat) : ∀ ns, (∀ a b, (a ∈ ns ∨ a ∈ cs) → (b ∈ ns ∨ b ∈ cs) → a ≠ 99 → b ≠ 99 → f a = f b → a = b) → (∀ a, a ∈ ns → a ≠ 99) → (∀ a, a ∈ cs → a ≠ 99 → f a ≠ 99) → cn (ns.map f) (cs.map (fx f)) = cn ns cs ∧ (nm (ns.map f) (cs.map (fx f))) = (nm ns cs).map f := by
  induction cs with
  | nil => intro ns _ _ _; exact ⟨rfl, rfl⟩
  | cons c cs ih =>
    intro ns hi hn h9
    have hi2 : ∀ a b, (a ∈ ns ∨ a ∈ cs) → (b ∈ ns ∨ b ∈ cs) → a ≠ 99 → b ≠ 99 → f a = f b → a = b := fun a b ha hb => hi a b (ha.imp id (List.mem_cons_of_mem _)) (hb.imp id (List.mem_cons_of_mem _))
    have h92 : ∀ a, a ∈ cs → a ≠ 99 → f a ≠ 99 := fun a ha => h9 a (List.mem_cons_of_mem _ ha)
    by_cases h : c = 99
    · subst h
      have h1 : fx f 99 = 99 := rfl
      simp only [List.map_cons, cn, nm, h1, ↓reduceIte, ih ns hi2 hn h92]
      exact ⟨trivial, trivial⟩
    · have h1 : fx f c = f c := by simp [fx, h]
      have h1' : ¬ f c = 99 := h9 c (List.mem_cons_self ..) h
      by_cases h2 : c ∈ ns
      · have h3 : f c ∈ ns.map f := List.mem_map_of_mem h2
        have h4 : ixo (ns.map f) (f c) = ixo ns c := idx_map (fun a ha e => hi a c (Or.inl ha) (Or.inr (List.mem_cons_self ..)) (hn a ha) h e)
        simp only [List.map_cons, cn, nm, h1, h1', h, h2, h3, h4, ↓reduceIte, ih ns hi2 hn h92]
        exact ⟨trivial, trivial⟩
      · have h3 : ¬ f c ∈ ns.map f := by
          intro h3
          obtain ⟨a, ha, e⟩ := List.mem_map.mp h3
          exact h2 (hi a c (Or.inl ha) (Or.inr (List.mem_cons_self ..)) (hn a ha) h e ▸ ha)
        have hm : ∀ a, (a ∈ ns ++ [c] ∨ a ∈ cs) → (a ∈ ns ∨ a ∈ c :: cs) := by
          intro a ha
          rcases ha with ha | ha
          · rcases List.mem_append.mp ha with ha | ha
            · exact Or.inl ha
            · exact Or.inr (by rw [List.mem_singleton.mp ha]; exact List.mem_cons_self ..)
          · exact Or.inr (List.mem_cons_of_mem _ ha)
        have h5 := ih (ns ++ [c]) (fun a b ha hb => hi a b (hm a ha) (hm b hb)) (fun a ha => by
          rcases List.mem_append.mp ha with ha | ha
          · exact hn a ha
          · rw [List.mem_singleton.mp ha]; exact h) h92
        rw [List.map_append] at h5
        simp only [List.map_cons, List.map_nil] at h5
        simp only [List.map_cons, cn, nm, h1, h1', h, h2, h3, ↓reduceIte, h5, List.length_map]
        exact ⟨trivial, trivial⟩
theorem pol_mem {t : Tm} : ∀ {v : Nat}, v ∈ pol t → v = 99 ∨ ocs v t := by
  induction t with
  | var w => intro v h; exact Or.inr (List.mem_singleton.mp h).symm
  | op a b iha ihb =>
    intro v h
    rcases List.mem_cons.mp h with h | h
    · exact Or.inl h
    · rcases List.mem_append.mp h with h | h
      · exact (iha h).imp id Or.inl
      · exact (ihb h).imp id Or.inr
theorem mem_pol {t : Tm} : ∀ {v : Nat}, ocs v t → v ∈ pol t := by
  induction t with
  | var w => intro v h; exact List.mem_singleton.mpr (Eq.symm h)
  | op a b iha ihb =>
    intro v h
    rcases h with h | h
    · exact List.mem_cons_of_mem _ (List.mem_append.mpr (Or.inl (iha h)))
    · exact List.mem_cons_of_mem _ (List.mem_append.mpr (Or.inr (ihb h)))
theorem pol_ren {f : Nat → Nat} {t : Tm} (h : bel 99 t) : pol (sb (fun v => .var (f v)) t) = (pol t).map (fx f) := by
  induction t with
  | var v =>
    have : v ≠ 99 := by have := bel_var.mp h; omega
    simp [sb, pol, fx, this]
  | op a b iha ihb =>
    obtain ⟨h1, h2⟩ := bel_op.mp h
    have e : fx f 99 = 99 := rfl
    simp only [sb, pol, List.map_cons, List.map_append, iha h1, ihb h2, e]
-- the tree with its variables numbered
def cT (t : Tm) : Tm := sb (fun v => .var (ixo (nm [] (pol t)) v)) t
def nv (t : Tm) : Nat := (nm [] (pol t)).length
theorem pol_cT {t : Tm} (h : bel 99 t) : pol (cT t) = cn [] (pol t) := by
  unfold cT
  rw [pol_ren h, cn_idx]
  rfl
theorem tS_ren {f : Nat → Nat} {t : Tm} : tS (sb (fun v => .var (f v)) t) = tS t := by
  induction t with
  | var v => rfl
  | op a b iha ihb => simp only [sb, tS, iha, ihb]
theorem tS_cT {t : Tm} : tS (cT t) = tS t := tS_ren
theorem pol_inj : ∀ {a b : Tm} {xs ys : List Nat}, bel 99 a → bel 99 b → pol a ++ xs = pol b ++ ys → a = b ∧ xs = ys := by
  intro a
  induction a with
  | var v =>
    intro b xs ys ha hb h
    cases b with
    | var w =>
      simp only [pol, List.cons_append, List.nil_append, List.cons.injEq] at h
      rw [h.1]; exact ⟨rfl, h.2⟩
    | op c d =>
      simp only [pol, List.cons_append, List.nil_append, List.cons.injEq] at h
      have := bel_var.mp ha
      omega
  | op a1 a2 ih1 ih2 =>
    intro b xs ys ha hb h
    cases b with
    | var w =>
      simp only [pol, List.cons_append, List.nil_append, List.cons.injEq] at h
      have := bel_var.mp hb
      omega
    | op c d =>
      simp only [pol, List.cons_append, List.append_assoc, List.cons.injEq, true_and] at h
      obtain ⟨e1, h2⟩ := ih1 (bel_op.mp ha).1 (bel_op.mp hb).1 h
      obtain ⟨e2, h3⟩ := ih2 (bel_op.mp ha).2 (bel_op.mp hb).2 h2
      rw [e1, e2]
      exact ⟨rfl, h3⟩
theorem pol_inj0 {a b : Tm} (ha : bel 99 a) (hb : bel 99 b) (h : pol a = pol b) : a = b := (pol_inj (xs := []) (ys := []) ha hb (by rw [h])).1
theorem cT_ocs {t : Tm} {w : Nat} (h : ocs w (cT t)) : w < nv t ∨ t = t ∧ bel 99 t → w < nv t := fun q => q.elim id fun ⟨_, hb⟩ => by
  have key : ∀ s : Tm, (∀ v, ocs v s → v ∈ nm [] (pol t)) → ocs w (sb (fun v => .var (ixo (nm [] (pol t)) v)) s) → w < nv t := by
    intro s
    induction s with
    | var v =>
      intro hs hw
      have e : ixo (nm [] (pol t)) v = w := hw
      rw [← e]
      exact List.idxOf_lt_length_of_mem (hs v rfl)
    | op a b iha ihb =>
      intro hs hw
      rcases hw with hw | hw
      · exact iha (fun v hv => hs v (Or.inl hv)) hw
      · exact ihb (fun v hv => hs v (Or.inr hv)) hw
  refine key t (fun v hv => ?_) h
  rw [nm_mem]
  exact Or.inr ⟨mem_pol hv, by have := hb v hv; omega⟩
-- two trees, each an instance of the other, have one numbering
theorem var_unique {t1 t2 : Tm} {f g : Nat → Tm} (b1 : bel 99 t1) (b2 : bel 99 t2) (h1 : t1 = sb f t2) (h2 : t2 = sb g t1) : cT t1 = cT t2 ∧ nv t1 = nv t2 := by
  have h3 : sb (fun v => sb g (f v)) t2 = sb .var t2 := by rw [← sb_sb, ← h1, ← h2, sb_var]
  have h4 := sb_inv h3
  let f' : Nat → Nat := fun v => match f v with
    | .var w => w
    | .op _ _ => 0
  have h5 : ∀ v, ocs v t2 → f v = .var (f' v) := by
    intro v hv
    have := h4 v hv
    show f v = .var (match f v with | .var w => w | .op _ _ => 0)
    cases hf : f v with
    | var w => rfl
    | op a b => rw [hf] at this; simp only [sb] at this; cases this
  have h6 : t1 = sb (fun v => .var (f' v)) t2 := by rw [h1]; exact sb_congr h5
  have hinj : ∀ a b, (a ∈ ([] : List Nat) ∨ a ∈ pol t2) → (b ∈ ([] : List Nat) ∨ b ∈ pol t2) → a ≠ 99 → b ≠ 99 → f' a = f' b → a = b := by
    intro a b ha hb na nb e
    have oa : ocs a t2 := (pol_mem (ha.resolve_left (by simp))).resolve_left na
    have ob : ocs b t2 := (pol_mem (hb.resolve_left (by simp))).resolve_left nb
    have e1 := h4 a oa
    have e2 := h4 b ob
    rw [h5 a oa] at e1
    rw [h5 b ob, ← e] at e2
    have e3 : (Lean.Data.AC.Expr.var a) = .var b := e1.symm.trans e2
    injection e3
  have h9 : ∀ a, a ∈ pol t2 → a ≠ 99 → f' a ≠ 99 := by
    intro a ha na e
    have oa : ocs a t2 := (pol_mem ha).resolve_left na
    have : ocs (f' a) t1 := by
      rw [h6]
      have gen : ∀ s : Tm, ocs a s → ocs (f' a) (sb (fun v => .var (f' v)) s) := by
        intro s
        induction s with
        | var w => intro hw; have : w = a := hw; subst this; rfl
        | op c d ihc ihd => intro hw; exact hw.imp ihc ihd
      exact gen t2 oa
    have := b1 _ this
    omega
  have hp : pol t1 = (pol t2).map (fx f') := by rw [h6]; exact pol_ren b2
  obtain ⟨c1, c2⟩ := cn_map (f := f') (pol t2) [] hinj (fun a ha => by simp at ha) h9
  rw [← hp] at c1 c2
  have hb1 : ∀ t : Tm, bel 99 t → tS t = tS t → True := fun _ _ _ => trivial
  refine ⟨?_, ?_⟩
  · unfold cT
    have gen : ∀ s : Tm, (∀ v, ocs v s → ocs v t2) → sb (fun v => .var (ixo (nm [] (pol t1)) v)) (sb (fun v => .var (f' v)) s) = sb (fun v => .var (ixo (nm [] (pol t2)) v)) s := by
      intro s hs
      rw [sb_sb]
      apply sb_congr
      intro v hv
      show Lean.Data.AC.Expr.var (ixo (nm [] (pol t1)) (f' v)) = _
      have c3 : nm [] (pol t1) = (nm [] (pol t2)).map f' := c2
      rw [c3, idx_map]
      intro a ha e
      have ha2 := (nm_mem _ _ _).mp ha
      rcases ha2 with ha2 | ⟨ha2, ha3⟩
      · simp at ha2
      · exact hinj a v (Or.inr ha2) (Or.inr (mem_pol (hs v hv))) ha3 (by have := b2 v (hs v hv); omega) e
    conv => lhs; rw [h6]
    have := gen t2 (fun v hv => hv)
    rw [← h6] at this ⊢
    exact this
  · unfold nv
    have c3 : nm [] (pol t1) = (nm [] (pol t2)).map f' := c2
    rw [c3, List.length_map]
-- ===== unification, as it is asked for =====
def MG (σ : Nat → Tm) (a b : Tm) : Prop := sb σ a = sb σ b ∧ ∀ τ : Nat → Tm, sb τ a = sb τ b → ∀ v, sb τ (σ v) = τ v
def UR (a b r : Tm) (z : Option (Tm × Nat × Nat)) : Prop := (z = none ∧ ∀ τ : Nat → Tm, ¬ sb τ a = sb τ b) ∨ ∃ σ, MG σ a b ∧ bel 99 (sb σ r) ∧ z = some (cT (sb σ r), tS (sb σ r), nv (sb σ r))
theorem UR_un {a b r : Tm} {z w : Option (Tm × Nat × Nat)} (h1 : UR a b r z) (h2 : UR a b r w) : z = w := by
  rcases h1 with ⟨h1, n1⟩ | ⟨σ, m1, b1, h1⟩
  · rcases h2 with ⟨h2, n2⟩ | ⟨ρ, m2, b2, h2⟩
    · rw [h1, h2]
    · exact absurd m2.1 (n1 ρ)
  · rcases h2 with ⟨h2, n2⟩ | ⟨ρ, m2, b2, h2⟩
    · exact absurd m1.1 (n2 σ)
    · have e1 : sb σ r = sb σ (sb ρ r) := by rw [sb_sb]; exact sb_congr (fun v _ => (m2.2 σ m1.1 v).symm)
      have e2 : sb ρ r = sb ρ (sb σ r) := by rw [sb_sb]; exact sb_congr (fun v _ => (m1.2 ρ m2.1 v).symm)
      obtain ⟨v1, v2⟩ := var_unique b1 b2 e1 e2
      have v3 : tS (sb σ r) = tS (sb ρ r) := by rw [← tS_cT (t := sb σ r), v1, tS_cT]
      rw [h1, h2, v1, v2, v3]
noncomputable def uR (a b r : Tm) : Option (Tm × Nat × Nat) := Classical.epsilon (UR a b r)
theorem uR_eq {a b r : Tm} {z : Option (Tm × Nat × Nat)} (h : UR a b r z) : uR a b r = z := UR_un (Classical.epsilon_spec (p := UR a b r) ⟨z, h⟩) h
