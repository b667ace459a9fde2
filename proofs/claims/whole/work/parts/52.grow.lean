/-! PURE, 32: new cells: the naming takes them in -/
def swp (Λ : Nat → Nat) (c q : Nat) : Nat → Nat := fun d => if d = c then q else if Λ d = q then Λ c else Λ d
theorem swp_at (Λ : Nat → Nat) (c q : Nat) : swp Λ c q c = q := by simp [swp]
theorem swp_ne {Λ : Nat → Nat} {c q d : Nat} (h : d ≠ c) (h2 : Λ d ≠ q) : swp Λ c q d = Λ d := by simp [swp, h, h2]
theorem swp_inj {Λ : Nat → Nat} {c q : Nat} (h : inj Λ) : inj (swp Λ c q) := by
  intro a b e
  unfold swp at e
  by_cases h1 : a = c
  · rw [if_pos h1] at e
    by_cases h2 : b = c
    · rw [h1, h2]
    · rw [if_neg h2] at e
      by_cases h3 : Λ b = q
      · rw [if_pos h3] at e; exact absurd (h b c (h3.trans e)) h2
      · rw [if_neg h3] at e; exact absurd e.symm h3
  · rw [if_neg h1] at e
    by_cases h2 : b = c
    · rw [if_pos h2] at e
      by_cases h3 : Λ a = q
      · rw [if_pos h3] at e; exact absurd (h a c (h3.trans e.symm)) h1
      · rw [if_neg h3] at e; exact absurd e h3
    · rw [if_neg h2] at e
      by_cases h3 : Λ a = q
      · by_cases h4 : Λ b = q
        · exact h a b (h3.trans h4.symm)
        · rw [if_pos h3, if_neg h4] at e; exact absurd (h c b e).symm h2
      · by_cases h4 : Λ b = q
        · rw [if_neg h3, if_pos h4] at e; exact absurd (h a c e) h1
        · rw [if_neg h3, if_neg h4] at e; exact h a b e
abbrev L3 : Type := List (Nat × Nat × Nat)
def hd3 (cs : L3) : List Nat := cs.map (fun x => x.1)
theorem hd3_mem {cs : L3} {x : Nat × Nat × Nat} (h : x ∈ cs) : x.1 ∈ hd3 cs := List.mem_map.mpr ⟨x, h, rfl⟩
/-- cells made since the memory B, by codes from o on: cs (code, kind, length), rs (code, slot, code), their numbers f, longs g; what there was (the codes U name it) is as it was -/
def Sh (U : Nat → Prop) (Λ0 : Nat → Nat) (B : Mm) (o : Nat) (Λ : Nat → Nat) (M : Mm) (cs rs : L3) (f : Nat → Nat → Int32) (g : Nat → Nat → Int64) : Prop :=
  inj Λ ∧ (∀ d, U d → Λ d = Λ0 d ∧ Λ0 d ∈ gL B) ∧ (∀ a, a ∈ gL B → a ∈ gL M ∧ gI M a = gI B a ∧ gJ M a = gJ B a ∧ gR M a = gR B a ∧ gK M a = gK B a ∧ gN M a = gN B a) ∧
  (∀ x ∈ cs, Λ (o + x.1) ∈ gL M ∧ Λ (o + x.1) ∉ gL B ∧ gK M (Λ (o + x.1)) = x.2.1 ∧ gN M (Λ (o + x.1)) = x.2.2 ∧ gI M (Λ (o + x.1)) = f x.1 ∧ gJ M (Λ (o + x.1)) = g x.1) ∧
  (∀ x ∈ rs, gR M (Λ (o + x.1)) x.2.1 = some (Λ (o + x.2.2)) ∧ x.1 ∈ hd3 cs ∧ x.2.2 ∈ hd3 cs) ∧ (∀ c ∈ hd3 cs, ∀ k, (∀ x ∈ rs, ¬ (x.1 = c ∧ x.2.1 = k)) → gR M (Λ (o + c)) k = none)
theorem Sh.start {U : Nat → Prop} {Λ : Nat → Nat} {B : Mm} {o : Nat} (hi : inj Λ) (hU : ∀ d, U d → Λ d ∈ gL B) : Sh U Λ B o Λ B [] [] (fun _ _ => 0) (fun _ _ => 0) :=
  ⟨hi, fun d hd => ⟨rfl, hU d hd⟩, fun a ha => ⟨ha, rfl, rfl, rfl, rfl, rfl⟩, fun x hx => absurd hx (by simp), fun x hx => absurd hx (by simp), fun c hc => absurd hc (by simp [hd3])⟩
theorem Sh.cell {U : Nat → Prop} {Λ0 Λ : Nat → Nat} {B M : Mm} {o : Nat} {cs rs : L3} {f : Nat → Nat → Int32} {g : Nat → Nat → Int64} (h : Sh U Λ0 B o Λ M cs rs f g) {c kd n : Nat} (hc : (c, kd, n) ∈ cs) : ok M (Λ (o + c)) kd ∧ gN M (Λ (o + c)) = n := ⟨⟨(h.2.2.2.1 _ hc).1, (h.2.2.2.1 _ hc).2.2.1⟩, (h.2.2.2.1 _ hc).2.2.2.1⟩
theorem Sh.num {U : Nat → Prop} {Λ0 Λ : Nat → Nat} {B M : Mm} {o : Nat} {cs rs : L3} {f : Nat → Nat → Int32} {g : Nat → Nat → Int64} (h : Sh U Λ0 B o Λ M cs rs f g) {c : Nat} (hc : c ∈ hd3 cs) : Λ (o + c) ∈ gL M ∧ Λ (o + c) ∉ gL B ∧ gI M (Λ (o + c)) = f c ∧ gJ M (Λ (o + c)) = g c := by
  obtain ⟨x, hx, rfl⟩ := List.mem_map.mp hc
  have := h.2.2.2.1 x hx
  exact ⟨this.1, this.2.1, this.2.2.2.2.1, this.2.2.2.2.2⟩
theorem Sh.ref {U : Nat → Prop} {Λ0 Λ : Nat → Nat} {B M : Mm} {o : Nat} {cs rs : L3} {f : Nat → Nat → Int32} {g : Nat → Nat → Int64} (h : Sh U Λ0 B o Λ M cs rs f g) {c k d : Nat} (hc : (c, k, d) ∈ rs) : gR M (Λ (o + c)) k = some (Λ (o + d)) := (h.2.2.2.2.1 _ hc).1
theorem Sh.none {U : Nat → Prop} {Λ0 Λ : Nat → Nat} {B M : Mm} {o : Nat} {cs rs : L3} {f : Nat → Nat → Int32} {g : Nat → Nat → Int64} (h : Sh U Λ0 B o Λ M cs rs f g) {c k : Nat} (hc : c ∈ hd3 cs) (hk : ∀ x ∈ rs, ¬ (x.1 = c ∧ x.2.1 = k)) : gR M (Λ (o + c)) k = none := h.2.2.2.2.2 c hc k hk
theorem Sh.new {U : Nat → Prop} {Λ0 Λ : Nat → Nat} {B M : Mm} {o : Nat} {cs rs : L3} {f : Nat → Nat → Int32} {g : Nat → Nat → Int64} (h : Sh U Λ0 B o Λ M cs rs f g) {c kd n q : Nat} (hc : c ∉ hd3 cs) (hU : ¬ U (o + c)) (hq : q ∉ gL M) (hf : f c = fun _ => 0) (hg : g c = fun _ => 0) : ∃ Λ', Sh U Λ0 B o Λ' (nC M q kd n) ((c, kd, n) :: cs) rs f g ∧ Λ' (o + c) = q ∧ ∀ d, d ∈ hd3 cs → Λ' (o + d) = Λ (o + d) := by
  have hcd : ∀ d, d ∈ hd3 cs → swp Λ (o + c) q (o + d) = Λ (o + d) := fun d hd => swp_ne (fun z => hc (by rw [show c = d by omega]; exact hd)) (fun z => hq (by rw [← z]; exact (h.num hd).1))
  have hne : ∀ d, d ∈ hd3 cs → Λ (o + d) ≠ q := fun d hd z => hq (by rw [← z]; exact (h.num hd).1)
  refine ⟨swp Λ (o + c) q, ⟨swp_inj h.1, fun d hd => ?_, fun a ha => ?_, fun x hx => ?_, fun x hx => ?_, fun y hy k hk => ?_⟩, swp_at _ _ _, hcd⟩
  · obtain ⟨e1, e2⟩ := h.2.1 d hd
    refine ⟨?_, e2⟩
    rw [swp_ne (fun z => hU (by rw [← z]; exact hd)) (fun z => hq ?_)]
    · exact e1
    · rw [← z, e1]; exact (h.2.2.1 _ e2).1
  · obtain ⟨a1, a2, a3, a4, a5, a6⟩ := h.2.2.1 a ha
    have n1 : a ≠ q := fun z => hq (by rw [← z]; exact a1)
    refine ⟨by rw [gL_nC]; exact List.mem_append_left _ a1, ?_, ?_, ?_, ?_, ?_⟩
    · rw [← a2]; funext j; rw [gI_nC, if_neg n1]
    · rw [← a3]; funext j; rw [gJ_nC, if_neg n1]
    · rw [← a4]; funext j; rw [gR_nC, if_neg n1]
    · rw [gK_nC, if_neg n1]; exact a5
    · rw [gN_nC, if_neg n1]; exact a6
  · rcases List.mem_cons.mp hx with rfl | hx
    · refine ⟨?_, ?_, ?_, ?_, ?_, ?_⟩ <;> simp only [swp_at]
      · rw [gL_nC]; exact List.mem_append_right _ (by simp)
      · exact fun z => hq (h.2.2.1 _ z).1
      · rw [gK_nC, if_pos rfl]
      · rw [gN_nC, if_pos rfl]
      · rw [hf]; funext j; rw [gI_nC, if_pos rfl]
      · rw [hg]; funext j; rw [gJ_nC, if_pos rfl]
    · have hm := hd3_mem hx
      obtain ⟨a1, a2, a3, a4, a5, a6⟩ := h.2.2.2.1 x hx
      have n1 := hne _ hm
      rw [hcd _ hm]
      refine ⟨by rw [gL_nC]; exact List.mem_append_left _ a1, a2, ?_, ?_, ?_, ?_⟩
      · rw [gK_nC, if_neg n1]; exact a3
      · rw [gN_nC, if_neg n1]; exact a4
      · rw [← a5]; funext j; rw [gI_nC, if_neg n1]
      · rw [← a6]; funext j; rw [gJ_nC, if_neg n1]
  · obtain ⟨a1, a2, a3⟩ := h.2.2.2.2.1 x hx
    refine ⟨?_, List.mem_cons_of_mem _ a2, List.mem_cons_of_mem _ a3⟩
    rw [hcd _ a2, hcd _ a3, gR_nC, if_neg (hne _ a2)]
    exact a1
  · rcases List.mem_cons.mp hy with e | hy
    · have e' : y = c := e
      rw [e', swp_at, gR_nC, if_pos rfl]
    · have hy' : y ∈ hd3 cs := hy
      rw [hcd _ hy', gR_nC, if_neg (hne _ hy')]
      exact h.2.2.2.2.2 y hy' k hk
theorem Sh.setR {U : Nat → Prop} {Λ0 Λ : Nat → Nat} {B M : Mm} {o : Nat} {cs rs : L3} {f : Nat → Nat → Int32} {g : Nat → Nat → Int64} (h : Sh U Λ0 B o Λ M cs rs f g) {p k c a q : Nat} (ea : Λ (o + p) = a) (eq : Λ (o + c) = q) (hp : p ∈ hd3 cs) (hc : c ∈ hd3 cs) (hk : ∀ x ∈ rs, ¬ (x.1 = p ∧ x.2.1 = k)) : Sh U Λ0 B o Λ (pR M a k (some q)) cs ((p, k, c) :: rs) f g := by
  subst ea; subst eq
  refine ⟨h.1, h.2.1, fun a ha => ?_, h.2.2.2.1, fun x hx => ?_, fun y hy j hj => ?_⟩
  · obtain ⟨a1, a2, a3, a4, a5, a6⟩ := h.2.2.1 a ha
    refine ⟨a1, a2, a3, ?_, a5, a6⟩
    rw [← a4]; funext j; rw [gR_pR, if_neg (fun z => (h.num hp).2.1 (by rw [← z.1]; exact ha))]
  · rcases List.mem_cons.mp hx with rfl | hx
    · exact ⟨by rw [gR_pR, if_pos ⟨rfl, rfl⟩], hp, hc⟩
    · obtain ⟨a1, a2, a3⟩ := h.2.2.2.2.1 x hx
      refine ⟨?_, a2, a3⟩
      rw [gR_pR, if_neg (fun z => hk x hx ⟨by have := h.1 _ _ z.1; omega, z.2⟩)]
      exact a1
  · rw [gR_pR, if_neg (fun z => hj (p, k, c) List.mem_cons_self ⟨by have := h.1 _ _ z.1; dsimp only; omega, z.2.symm⟩)]
    exact h.2.2.2.2.2 y hy j (fun x hx => hj x (List.mem_cons_of_mem _ hx))
def uf (f : Nat → Nat → Int32) (p : Nat) (w : Nat → Int32) : Nat → Nat → Int32 := fun d => if d = p then w else f d
theorem uf_eq (f : Nat → Nat → Int32) (p : Nat) (w : Nat → Int32) : uf f p w p = w := by simp [uf]
theorem uf_ne (f : Nat → Nat → Int32) {p d : Nat} (w : Nat → Int32) (h : d ≠ p) : uf f p w d = f d := by simp [uf, h]
theorem Sh.setC {U : Nat → Prop} {Λ0 Λ : Nat → Nat} {B M M' : Mm} {o : Nat} {cs rs : L3} {f : Nat → Nat → Int32} {g : Nat → Nat → Int64} (h : Sh U Λ0 B o Λ M cs rs f g) {p a : Nat} {w : Nat → Int32} (ea : Λ (o + p) = a) (hp : p ∈ hd3 cs) (hc : Ch (fun b => b = a) M M') (hw : gI M' a = w) : Sh U Λ0 B o Λ M' cs rs (uf f p w) g := by
  subst ea
  refine ⟨h.1, h.2.1, fun a ha => ?_, fun x hx => ?_, fun x hx => ?_, by rw [hc.R]; exact h.2.2.2.2.2⟩
  · obtain ⟨a1, a2, a3, a4, a5, a6⟩ := h.2.2.1 a ha
    exact ⟨by rw [hc.L]; exact a1, by rw [hc.2 _ (fun z => (h.num hp).2.1 (by rw [← z]; exact ha))]; exact a2, by rw [hc.J]; exact a3, by rw [hc.R]; exact a4, by rw [hc.K]; exact a5, by rw [hc.N]; exact a6⟩
  · obtain ⟨a1, a2, a3, a4, a5, a6⟩ := h.2.2.2.1 x hx
    refine ⟨by rw [hc.L]; exact a1, a2, by rw [hc.K]; exact a3, by rw [hc.N]; exact a4, ?_, by rw [hc.J]; exact a6⟩
    by_cases e : x.1 = p
    · rw [e, uf_eq]; exact hw
    · rw [uf_ne _ _ e, hc.2 _ (h.1.ne (by omega))]; exact a5
  · rw [hc.R]; exact h.2.2.2.2.1 x hx
theorem Sh.setI {U : Nat → Prop} {Λ0 Λ : Nat → Nat} {B M : Mm} {o : Nat} {cs rs : L3} {f : Nat → Nat → Int32} {g : Nat → Nat → Int64} (h : Sh U Λ0 B o Λ M cs rs f g) {p a : Nat} (k : Nat) (v : Int32) (ea : Λ (o + p) = a) (hp : p ∈ hd3 cs) : Sh U Λ0 B o Λ (pI M a k v) cs rs (uf f p (upd (f p) k v)) g :=
  h.setC ea hp (Ch.put rfl) (by rw [gI_pI_eq, ← ea, (h.num hp).2.2.1])
def ug (g : Nat → Nat → Int64) (p : Nat) (w : Nat → Int64) : Nat → Nat → Int64 := fun d => if d = p then w else g d
theorem ug_eq (g : Nat → Nat → Int64) (p : Nat) (w : Nat → Int64) : ug g p w p = w := by simp [ug]
theorem ug_ne (g : Nat → Nat → Int64) {p d : Nat} (w : Nat → Int64) (h : d ≠ p) : ug g p w d = g d := by simp [ug, h]
theorem Sh.setJ {U : Nat → Prop} {Λ0 Λ : Nat → Nat} {B M : Mm} {o : Nat} {cs rs : L3} {f : Nat → Nat → Int32} {g : Nat → Nat → Int64} (h : Sh U Λ0 B o Λ M cs rs f g) {p a : Nat} (k : Nat) (v : Int64) (ea : Λ (o + p) = a) (hp : p ∈ hd3 cs) : Sh U Λ0 B o Λ (pJ M a k v) cs rs f (ug g p (vp_updL (g p) k v)) := by
  subst ea
  refine ⟨h.1, h.2.1, fun a ha => ?_, fun x hx => ?_, h.2.2.2.2⟩
  · obtain ⟨a1, a2, a3, a4, a5, a6⟩ := h.2.2.1 a ha
    exact ⟨a1, a2, by rw [gJ_pJ_ne (fun z => (h.num hp).2.1 (by rw [← z]; exact ha))]; exact a3, a4, a5, a6⟩
  · obtain ⟨a1, a2, a3, a4, a5, a6⟩ := h.2.2.2.1 x hx
    refine ⟨a1, a2, a3, a4, a5, ?_⟩
    by_cases e : x.1 = p
    · rw [e, ug_eq, gJ_pJ_eq, (h.num hp).2.2.2]
    · rw [ug_ne _ _ e, gJ_pJ_ne (h.1.ne (by omega))]; exact a6
theorem hd3_cons {cs : L3} {x : Nat × Nat × Nat} {c : Nat} (h1 : c ≠ x.1) (h : c ∉ hd3 cs) : c ∉ hd3 (x :: cs) := fun z => by
  rcases List.mem_cons.mp z with e | e
  · exact h1 e
  · exact h e
theorem rs_cons {rs : L3} {y : Nat × Nat × Nat} {p k : Nat} (h1 : ¬ (y.1 = p ∧ y.2.1 = k)) (h : ∀ x ∈ rs, ¬ (x.1 = p ∧ x.2.1 = k)) : ∀ x ∈ y :: rs, ¬ (x.1 = p ∧ x.2.1 = k) := fun x hx => by
  rcases List.mem_cons.mp hx with rfl | e
  · exact h1
  · exact h x e
/-- a row made and laid into a slot -/
theorem mk_step {U : Nat → Prop} {Λ0 Λ : Nat → Nat} {B M : Mm} {o : Nat} {cs rs : L3} {f : Nat → Nat → Int32} {g : Nat → Nat → Int64} {Q : Mm → Prop} {gc gs a kd n k kp : Nat} (p c n0 : Nat) (h : Sh U Λ0 B o Λ M cs rs f g) (ea : Λ (o + p) = a) (hp : (p, kp, n0) ∈ cs) (hc : c ∉ hd3 cs) (hU : ¬ U (o + c)) (hk : ∀ x ∈ rs, ¬ (x.1 = p ∧ x.2.1 = k)) (hf : f c = fun _ => 0) (hg : g c = fun _ => 0)
    (hQ : ∀ Λ' M', Sh U Λ0 B o Λ' M' ((c, kd, n) :: cs) ((p, k, c) :: rs) f g → Λ' (o + p) = a → (∀ d, d ∈ hd3 cs → Λ' (o + d) = Λ (o + d)) → Q M') (h1 : 1 ≤ gc) (h2 : n ≤ gs) : 1 ≤ gc ∧ n ≤ gs ∧ ∀ q, q ∉ gL M → ∀ M3, M3 = nC M q kd n → (ok M3 a kp ∧ ∀ M5, M5 = pR M3 a k (some q) → Q M5) := by
  refine ⟨h1, h2, fun q hq => ?_⟩
  rintro _ rfl
  obtain ⟨Λ1, s1, e1, e2⟩ := h.new (kd := kd) (n := n) hc hU hq hf hg
  have ep : Λ1 (o + p) = a := (e2 p (hd3_mem hp)).trans ea
  refine ⟨by rw [← ep]; exact (s1.cell (List.mem_cons_of_mem _ hp)).1, ?_⟩
  rintro _ rfl
  exact hQ Λ1 _ (s1.setR ep e1 (List.mem_cons_of_mem _ (hd3_mem hp)) (List.mem_cons_self) hk) ep e2
-- what is named
def uU (T c : Nat) : Prop := uX T c ∨ (400 ≤ c ∧ c ≤ 419)
theorem SX.mem {Λ : Nat → Nat} {M : Mm} {T c : Nat} (h : SX Λ M T) (u : uX T c) : Λ c ∈ gL M := by
  obtain ⟨h0, ⟨h1, h2, h3⟩, ⟨h4, h5, h6⟩, ⟨h7, h8, h9⟩, ⟨h10, h11, h12, h13, h14⟩, ⟨h15, h16⟩, h17⟩ := h
  rcases u with u | u
  · by_cases c5 : 5 ≤ c ∧ c ≤ 8
    · have := (h13 (c - 5) (by omega)).1
      rwa [show 5 + (c - 5) = c by omega] at this
    · have : c = 0 ∨ c = 1 ∨ c = 2 ∨ c = 3 ∨ c = 4 ∨ c = 9 := by omega
      rcases this with rfl | rfl | rfl | rfl | rfl | rfl
      · exact h0.1
      · exact h2.1
      · exact h5.1
      · exact h8.1
      · exact h11.1
      · exact h16.1
  · obtain ⟨t1, t2, t3, t4, t5, t6⟩ := h17 ((c - 20) / 30) (by omega)
    by_cases j0 : (c - 20) % 30 = 0
    · have := t2.1; unfold tc at this; rwa [show 20 + 30 * ((c - 20) / 30) = c by omega] at this
    · by_cases j1 : (c - 20) % 30 = 1
      · have := t4.1; unfold tc at this; rwa [show 20 + 30 * ((c - 20) / 30) + 1 = c by omega] at this
      · obtain ⟨m1, m2, m3, m9, m10, m11⟩ := t6 (((c - 20) % 30 - 2) / 7) (by omega)
        by_cases k0 : ((c - 20) % 30 - 2) % 7 = 0
        · have := m2.1; unfold rc at this; rwa [show 20 + 30 * ((c - 20) / 30) + 2 + 7 * (((c - 20) % 30 - 2) / 7) = c by omega] at this
        · have := (m9 (((c - 20) % 30 - 2) % 7) (by omega) (by omega)).1; unfold rc at this; rwa [show 20 + 30 * ((c - 20) / 30) + 2 + 7 * (((c - 20) % 30 - 2) / 7) + ((c - 20) % 30 - 2) % 7 = c by omega] at this
theorem ModSh.mem {Λ : Nat → Nat} {M : Mm} {c : Nat} (h : ModSh Λ M) (u : 400 ≤ c ∧ c ≤ 419) : Λ c ∈ gL M := by
  by_cases e : c = 400
  · rw [e]; exact h.1.1
  · have := (h.2 (c - 400) (by omega) (by omega)).2.1.1
    rwa [show 400 + (c - 400) = c by omega] at this
theorem Inv.mem {Λ : Nat → Nat} {M : Mm} {σ τ : Sg} {c : Nat} (h : Inv Λ M σ τ) (u : uU (sT σ) c) : Λ c ∈ gL M := u.elim h.sx.mem h.ms.mem
/-- more cells, more names -/
theorem Inv.grow {Λ Λ' : Nat → Nat} {M M' : Mm} {σ τ : Sg} (h : Inv Λ M σ τ) (hi : inj Λ') (e : ∀ c, uU (sT σ) c → Λ' c = Λ c) (eM : ∀ a, a ∈ gL M → a ∈ gL M' ∧ gI M' a = gI M a ∧ gJ M' a = gJ M a ∧ (∀ k, ¬ (a = Λ 0 ∧ k = 5) → gR M' a k = gR M a k) ∧ gK M' a = gK M a ∧ gN M' a = gN M a) (hz : Cz Λ' M') : Inv Λ' M' σ τ := by
  refine ⟨hi, ⟨h.sx.lam (fun c u => e c (Or.inl u)) (fun c k u o => ?_) (fun c k u n => ?_), hz, h.cx.same (fun c u => ?_) (fun c u => ?_)⟩, h.ms.lam (fun j hj => e _ (Or.inr (by omega))) (fun j k hj o => ?_) ?_, h.cm.same (fun j hj => ?_) ?_⟩
  · obtain ⟨a1, a2, a3, a4, a5, a6⟩ := eM _ o.1
    exact ⟨⟨a1, a5.trans o.2⟩, a6⟩
  · exact (eM _ (h.mem (Or.inl u))).2.2.2.1 k (fun z => n ⟨h.hΛ _ _ z.1, z.2⟩)
  · rw [e c (Or.inl u)]; exact (eM _ (h.mem (Or.inl u))).2.1
  · rw [e c (Or.inl u)]; exact (eM _ (h.mem (Or.inl u))).2.2.1
  · obtain ⟨a1, a2, a3, a4, a5, a6⟩ := eM _ o.1
    exact ⟨⟨a1, a5.trans o.2⟩, a6⟩
  · funext k; exact (eM _ (h.mem (Or.inr (by omega)))).2.2.2.1 k (fun z => h.hΛ.ne (by omega) z.1)
  · rw [e _ (Or.inr (by omega))]; exact (eM _ (h.mem (Or.inr (by omega)))).2.1
  · rw [e _ (Or.inr (by omega))]; exact (eM _ (h.mem (Or.inr (by omega)))).2.2.1
theorem uU_not {T c : Nat} (hT : T ≤ 8) (h : c = 10 ∨ c = 11) : ¬ uU T c := by unfold uU uX; omega
theorem x_ready {Λ : Nat → Nat} {M : Mm} {σ τ : Sg} {Q : Option Nat → Mm → Prop} {gc gs : Nat} (h : Inv Λ M σ τ) (hT : sT σ ≤ 8) (hb : gR M (Λ 0) 5 = none → 2 ≤ gc ∧ 8594 ≤ gs)
    (hQ : ∀ Λ' M', Inv Λ' M' σ τ → ChSh Λ' M' → gR M' (Λ' 0) 5 = some (Λ' 10) → (∀ c, uU (sT σ) c → Λ' c = Λ c) → (∀ c, uU (sT σ) c → gI M' (Λ c) = gI M (Λ c)) → Q (some (Λ' 10)) M') : B_X5_readyChances_0 Q (Λ 0) gc gs M := by
  have u0 : uU (sT σ) 0 := Or.inl (Or.inl (by omega))
  unfold B_X5_readyChances_0
  refine ⟨h.o0, fun hn => ?_, fun a ha => ?_⟩
  · obtain ⟨b1, b2⟩ := hb hn
    refine ⟨by omega, by omega, fun q hq => ?_⟩
    rintro _ rfl
    refine ⟨gc - 1, gs - 3, Nat.le_refl _, Nat.le_refl _, ?_⟩
    have s0 : Sh (uU (sT σ)) Λ M 10 Λ M [] [] (fun _ _ => 0) (fun _ _ => 0) := Sh.start h.hΛ (fun c hc => h.mem hc)
    obtain ⟨Λ1, s1, e1, _⟩ := s0.new (c := 0) (kd := 0) (n := 0) (q := q) (by decide) (uU_not hT (by omega)) hq rfl rfl
    unfold B_X0_init_0
    refine mk_step 0 1 0 s1 e1 (by decide) (by decide) (uU_not hT (by omega)) (by decide) rfl rfl (fun Λ2 M2 s2 e2 _ => ?_) (by omega) (by omega)
    rintro _ rfl
    have s3 := s2.setI 2 1 e2 (by decide)
    have e0 : Λ2 0 = Λ 0 := (s3.2.1 0 u0).1
    have k0 := s3.2.2.1 (Λ 0) (h.mem u0)
    refine ⟨⟨k0.1, k0.2.2.2.2.1.trans h.o0.2⟩, ?_⟩
    rintro _ rfl
    have e10 : Λ2 10 = q := e2
    have eR : gR (pR (pI M2 q 2 1) (Λ 0) 5 (some q)) (Λ 0) 5 = some q := by rw [gR_pR, if_pos ⟨rfl, rfl⟩]
    have n10 : Λ2 10 ≠ Λ 0 := fun z => (s3.num (c := 0) (by decide)).2.1 (by rw [show 10 + 0 = 10 from rfl, z]; exact h.mem u0)
    have cS : ChSh Λ2 (pR (pI M2 q 2 1) (Λ 0) 5 (some q)) := by
      refine ⟨(s3.cell (c := 0) (kd := 0) (n := 0) (by decide)).1, ?_, (s3.cell (c := 1) (kd := 7) (n := 8591) (by decide)).1, (s3.cell (c := 1) (kd := 7) (n := 8591) (by decide)).2⟩
      rw [gR_pR, if_neg (fun z => n10 z.1)]
      exact s3.ref (c := 0) (k := 0) (d := 1) (by decide)
    rw [eR, ← e10]
    have e10' : q = Λ2 10 := e10.symm
    subst e10'
    refine hQ Λ2 _ (h.grow s3.1 (fun c u => (s3.2.1 c u).1) (fun a ha => ?_) (Or.inr ⟨by rw [e0]; exact eR, cS⟩)) cS (by rw [e0]; exact eR) (fun c u => (s3.2.1 c u).1) (fun c u => (s3.2.2.1 _ (h.mem u)).2.1)
    obtain ⟨a1, a2, a3, a4, a5, a6⟩ := s3.2.2.1 a ha
    exact ⟨a1, a2, a3, fun k nk => by rw [gR_pR, if_neg nk, a4], a5, a6⟩
  · rcases h.cz with z | z
    · rw [z] at ha; cases ha
    · rw [z.1]; exact hQ Λ M h z.2 z.1 (fun _ _ => rfl) (fun _ _ => rfl)
