/-! THE PLAIN MACHINE IS DETERMINED: what it comes to, said step by step -/
abbrev xTK : Type := Nat → List xV → List xV → xM → Prop
abbrev xTC : Type := Nat → List xV → List xV → Prop
abbrev xTR : Type := Int → Prop
def xdet (P : xTK → xTC → xTR → Prop) : Prop := ∀ K C R, P K C R → (∃ a b c d, K a b c d ∧ ∀ K' C' R', K' a b c d → P K' C' R') ∨ (∃ k as r, C k as r ∧ ∀ K' C' R', C' k as r → P K' C' R') ∨ (∃ v, R v ∧ ∀ (K' : xTK) (C' : xTC) (R' : xTR), R' v → P K' C' R')
theorem xdet_F : xdet (fun _ _ _ => False) := fun _ _ _ h => h.elim
theorem xdet_K {a : Nat} {b c : List xV} {d : xM} : xdet (fun K _ _ => K a b c d) := fun _ _ _ h => Or.inl ⟨a, b, c, d, h, fun _ _ _ h => h⟩
theorem xdet_C {k : Nat} {as r : List xV} : xdet (fun _ C _ => C k as r) := fun _ _ _ h => Or.inr (Or.inl ⟨k, as, r, h, fun _ _ _ h => h⟩)
theorem xdet_R {v : Int} : xdet (fun _ _ R => R v) := fun _ _ _ h => Or.inr (Or.inr ⟨v, h, fun _ _ _ h => h⟩)
theorem xdet_and {c : Prop} {P : xTK → xTC → xTR → Prop} (h : xdet P) : xdet (fun K C R => c ∧ P K C R) := by
  intro K C R ⟨hc, hp⟩
  rcases h K C R hp with ⟨a, b, c', d, h1, h2⟩ | ⟨k, as, r, h1, h2⟩ | ⟨v, h1, h2⟩
  · exact Or.inl ⟨a, b, c', d, h1, fun K' C' R' hk => ⟨hc, h2 K' C' R' hk⟩⟩
  · exact Or.inr (Or.inl ⟨k, as, r, h1, fun K' C' R' hk => ⟨hc, h2 K' C' R' hk⟩⟩)
  · exact Or.inr (Or.inr ⟨v, h1, fun K' C' R' hk => ⟨hc, h2 K' C' R' hk⟩⟩)
theorem xdet_cond {b : Bool} {P S : xTK → xTC → xTR → Prop} (h1 : xdet P) (h2 : xdet S) : xdet (fun K C R => cond b (P K C R) (S K C R)) := by
  cases b
  · exact h2
  · exact h1
theorem xdet_ite {p : Prop} [Decidable p] {P S : xTK → xTC → xTR → Prop} (h1 : xdet P) (h2 : xdet S) : xdet (fun K C R => if p then P K C R else S K C R) := by
  by_cases hp : p
  · simp only [hp, if_true]; exact h1
  · simp only [hp, if_false]; exact h2
theorem xdet_if {cd : ClassFile.Cond} {x y : Int} {P S : xTK → xTC → xTR → Prop} (h1 : xdet P) (h2 : xdet S) : xdet (fun K C R => xif cd x y (P K C R) (S K C R)) := by
  cases cd <;> simp only [xif] <;> first | exact xdet_ite h1 h2 | exact xdet_ite h2 h1
theorem xdet_sw {x : Int} {f : Int → xTK → xTC → xTR → Prop} {S : xTK → xTC → xTR → Prop} (h1 : ∀ o, xdet (f o)) (h2 : xdet S) : ∀ (os : List Int) (lo : Int), xdet (fun K C R => xsw x lo os (fun o => f o K C R) (S K C R))
  | [], _ => h2
  | o :: os, lo => by
    simp only [xsw]
    exact xdet_ite (h1 o) (xdet_sw h1 h2 os (lo + 1))
theorem xdet_lsw {x : Int} {f : Int → xTK → xTC → xTR → Prop} {S : xTK → xTC → xTR → Prop} (h1 : ∀ o, xdet (f o)) (h2 : xdet S) : ∀ (ps : List (Int × Int)), xdet (fun K C R => xlsw x ps (fun o => f o K C R) (S K C R))
  | [] => h2
  | q :: r => by
    simp only [xlsw]
    exact xdet_ite (h1 q.2) (xdet_lsw h1 h2 r)
theorem xdet_I1 {st : List xV} {f : Int → List xV → xTK → xTC → xTR → Prop} (h : ∀ x r, xdet (f x r)) : xdet (fun K C R => xI1 st (fun x r => f x r K C R)) := by
  unfold xI1
  split
  · exact h _ _
  · exact xdet_F
theorem xdet_I2 {st : List xV} {f : Int → Int → List xV → xTK → xTC → xTR → Prop} (h : ∀ x y r, xdet (f x y r)) : xdet (fun K C R => xI2 st (fun x y r => f x y r K C R)) := by
  unfold xI2
  split
  · exact h _ _ _
  · exact xdet_F
theorem xdet_L1 {st : List xV} {f : Int → List xV → xTK → xTC → xTR → Prop} (h : ∀ x r, xdet (f x r)) : xdet (fun K C R => xL1 st (fun x r => f x r K C R)) := by
  unfold xL1
  split
  · exact h _ _
  · exact xdet_F
theorem xdet_L2 {st : List xV} {f : Int → Int → List xV → xTK → xTC → xTR → Prop} (h : ∀ x y r, xdet (f x y r)) : xdet (fun K C R => xL2 st (fun x y r => f x y r K C R)) := by
  unfold xL2
  split
  · exact h _ _ _
  · exact xdet_F
theorem xdet_LI {st : List xV} {f : Int → Int → List xV → xTK → xTC → xTR → Prop} (h : ∀ x y r, xdet (f x y r)) : xdet (fun K C R => xLI st (fun x y r => f x y r K C R)) := by
  unfold xLI
  split
  · exact h _ _ _
  · exact xdet_F
theorem xdet_R1 {st : List xV} {f : Nat → Nat → List xV → xTK → xTC → xTR → Prop} (h : ∀ x y r, xdet (f x y r)) : xdet (fun K C R => xR1 st (fun x y r => f x y r K C R)) := by
  unfold xR1
  split
  · exact h _ _ _
  · exact xdet_F
theorem xdet_IR {st : List xV} {f : Nat → Nat → Int → List xV → xTK → xTC → xTR → Prop} (h : ∀ x y z r, xdet (f x y z r)) : xdet (fun K C R => xIR st (fun x y z r => f x y z r K C R)) := by
  unfold xIR
  split
  · exact h _ _ _ _
  · exact xdet_F
theorem xdet_IIR {st : List xV} {f : Nat → Nat → Int → Int → List xV → xTK → xTC → xTR → Prop} (h : ∀ x y z w r, xdet (f x y z w r)) : xdet (fun K C R => xIIR st (fun x y z w r => f x y z w r K C R)) := by
  unfold xIIR
  split
  · exact h _ _ _ _ _
  · exact xdet_F
theorem xdet_vI {v : xV} {f : Int → xTK → xTC → xTR → Prop} (h : ∀ x, xdet (f x)) : xdet (fun K C R => xvI v (fun x => f x K C R)) := by
  unfold xvI
  split
  · exact h _
  · exact xdet_F
theorem xdet_vL {v : xV} {f : Int → xTK → xTC → xTR → Prop} (h : ∀ x, xdet (f x)) : xdet (fun K C R => xvL v (fun x => f x K C R)) := by
  unfold xvL
  split
  · exact h _
  · exact xdet_F
theorem xdet_vR {v : xV} {f : Nat → Nat → xTK → xTC → xTR → Prop} (h : ∀ x y, xdet (f x y)) : xdet (fun K C R => xvR v (fun x y => f x y K C R)) := by
  unfold xvR
  split
  · exact xdet_cond xdet_F (h _ _)
  · exact xdet_F
theorem xdet_v1 {v : xV} {P : xTK → xTC → xTR → Prop} (h : xdet P) : xdet (fun K C R => xv1 v (P K C R)) := by
  unfold xv1
  split
  · exact h
  · exact xdet_F
  · exact xdet_cond xdet_F h
theorem xdet_take {f : List xV → List xV → xTK → xTC → xTR → Prop} (h : ∀ a r, xdet (f a r)) : ∀ (n : Nat) (acc st : List xV), xdet (fun K C R => xtake n acc st (fun a r => f a r K C R))
  | 0, acc, st => h acc st
  | n + 1, acc, v :: st => xdet_take h n (v :: acc) st
  | n + 1, acc, [] => xdet_F
set_option maxHeartbeats 8000000 in
theorem xstp_det (ins : Instr) (M pc : Nat) (L st : List xV) (σ : xM) : xdet (fun K C R => xstp ins M pc L st σ K C R) := by
  cases ins
  all_goals try exact xdet_F
  all_goals simp only [xstp]
  all_goals repeat' (first | exact xdet_F | exact xdet_K | exact xdet_C | exact xdet_R | with_reducible apply xdet_and | with_reducible apply xdet_cond | with_reducible apply xdet_if | with_reducible apply xdet_sw | with_reducible apply xdet_lsw | with_reducible apply xdet_I1 | with_reducible apply xdet_I2 | with_reducible apply xdet_L1 | with_reducible apply xdet_L2 | with_reducible apply xdet_LI | with_reducible apply xdet_R1 | with_reducible apply xdet_IR | with_reducible apply xdet_IIR | with_reducible apply xdet_vI | with_reducible apply xdet_vL | with_reducible apply xdet_vR | with_reducible apply xdet_v1 | with_reducible apply xdet_take | split | (intro _))
theorem xF_mono : ∀ (n d M pc : Nat) (L st : List xV) (σ : xM) (Q Q' : Int → xM → Prop), xF n d M pc L st σ Q → (∀ v σ', Q v σ' → Q' v σ') → xF (n + 1) d M pc L st σ Q' ∧ xF n d M pc L st σ Q'
  | 0, _, _, _, _, _, _, _, _, h, _ => h.elim
  | n + 1, d, M, pc, L, st, σ, Q, Q', h, hq => by
    rw [xF_succ] at h
    rw [xF_succ, xF_succ]
    cases hat : xat M pc with
    | none => rw [hat] at h; exact h.elim
    | some q =>
      rw [hat] at h
      rcases xstp_det q.1 M pc L st σ _ _ _ h with ⟨a, b, c, e, h1, h2⟩ | ⟨k, as, r, h1, h2⟩ | ⟨v, h1, h2⟩
      · have ih := xF_mono n d M a b c e Q Q' h1 hq
        exact ⟨h2 _ _ _ ih.1, h2 _ _ _ ih.2⟩
      · cases d with
        | zero => exact h1.elim
        | succ d =>
          refine ⟨h2 _ _ _ ?_, h2 _ _ _ ?_⟩
          · exact (xF_mono n d k 0 _ _ σ _ _ h1 (fun v σ' hv => (xF_mono n (d + 1) M (pc + 3) L _ σ' Q Q' hv hq).1)).1
          · exact (xF_mono n d k 0 _ _ σ _ _ h1 (fun v σ' hv => (xF_mono n (d + 1) M (pc + 3) L _ σ' Q Q' hv hq).2)).2
      · exact ⟨h2 _ _ _ (hq _ _ h1), h2 _ _ _ (hq _ _ h1)⟩
theorem xF_le {n n' d M pc : Nat} {L st : List xV} {σ : xM} {Q Q' : Int → xM → Prop} (hn : n ≤ n') (h : xF n d M pc L st σ Q) (hq : ∀ v σ', Q v σ' → Q' v σ') : xF n' d M pc L st σ Q' := by
  induction hn with
  | refl => exact (xF_mono n d M pc L st σ Q Q' h hq).2
  | step _ ih => exact (xF_mono _ d M pc L st σ Q' Q' ih (fun _ _ h => h)).1
/-- where it ends -/
theorem xF_end : ∀ (n d M pc : Nat) (L st : List xV) (σ : xM) (Q : Int → xM → Prop), xF n d M pc L st σ Q → ∃ v σ', Q v σ' ∧ ∀ Q', Q' v σ' → xF n d M pc L st σ Q'
  | 0, _, _, _, _, _, _, _, h => h.elim
  | n + 1, d, M, pc, L, st, σ, Q, h => by
    rw [xF_succ] at h
    cases hat : xat M pc with
    | none => rw [hat] at h; exact h.elim
    | some q =>
      rw [hat] at h
      rcases xstp_det q.1 M pc L st σ _ _ _ h with ⟨a, b, c, e, h1, h2⟩ | ⟨k, as, r, h1, h2⟩ | ⟨v, h1, h2⟩
      · obtain ⟨v, σ', hv, hQ⟩ := xF_end n d M a b c e Q h1
        refine ⟨v, σ', hv, fun Q' hq => ?_⟩
        rw [xF_succ, hat]
        exact h2 _ _ _ (hQ Q' hq)
      · cases d with
        | zero => exact h1.elim
        | succ d =>
          obtain ⟨v, σ', hv, hQ⟩ := xF_end n d k 0 _ _ σ _ h1
          obtain ⟨w, σ'', hw, hQ2⟩ := xF_end n (d + 1) M (pc + 3) L _ σ' Q hv
          refine ⟨w, σ'', hw, fun Q' hq => ?_⟩
          rw [xF_succ, hat]
          exact h2 _ _ _ (hQ _ (hQ2 Q' hq))
      · refine ⟨v, σ, h1, fun Q' hq => ?_⟩
        rw [xF_succ, hat]
        exact h2 _ _ _ hq
/-- one step more, inside Ev -/
theorem Ev_eq (d M pc : Nat) (L st : List xV) (σ : xM) (Q : Int → xM → Prop) : Ev d M pc L st σ Q = (match xat M pc with
    | none => False
    | some q => xstp q.1 M pc L st σ (fun pc' L' st' σ' => Ev d M pc' L' st' σ' Q)
        (fun k as r => match d with
          | 0 => False
          | d' + 1 => Ev d' k 0 (xent k as) [] σ (fun v σ' => Ev (d' + 1) M (pc + 3) L (xpush k v r) σ' Q))
        (fun v => Q v σ)) := by
  apply propext
  constructor
  · rintro ⟨n, h⟩
    cases n with
    | zero => exact h.elim
    | succ n =>
      rw [xF_succ] at h
      cases hat : xat M pc with
      | none => rw [hat] at h; exact h.elim
      | some q =>
        rw [hat] at h
        rcases xstp_det q.1 M pc L st σ _ _ _ h with ⟨a, b, c, e, h1, h2⟩ | ⟨k, as, r, h1, h2⟩ | ⟨v, h1, h2⟩
        · exact h2 _ _ _ ⟨n, h1⟩
        · refine h2 _ _ _ ?_
          cases d with
          | zero => exact h1.elim
          | succ d => exact ⟨n, xF_le (Nat.le_refl n) h1 (fun v σ' hv => ⟨n, hv⟩)⟩
        · exact h2 _ _ _ h1
  · intro h
    cases hat : xat M pc with
    | none => rw [hat] at h; exact h.elim
    | some q =>
      rw [hat] at h
      rcases xstp_det q.1 M pc L st σ _ _ _ h with ⟨a, b, c, e, ⟨n, h1⟩, h2⟩ | ⟨k, as, r, h1, h2⟩ | ⟨v, h1, h2⟩
      · refine ⟨n + 1, ?_⟩
        rw [xF_succ, hat]
        exact h2 _ _ _ h1
      · cases d with
        | zero => exact h1.elim
        | succ d =>
          obtain ⟨n, h1⟩ := h1
          obtain ⟨v, σ', ⟨n2, hv⟩, hQ⟩ := xF_end n d k 0 _ _ σ _ h1
          refine ⟨max n n2 + 1, ?_⟩
          rw [xF_succ, hat]
          exact h2 _ _ _ (xF_le (Nat.le_max_left n n2) (hQ (fun v' s' => xF (max n n2) (d + 1) M (pc + 3) L (xpush k v' r) s' Q) (xF_le (Nat.le_max_right n n2) hv (fun _ _ h => h))) (fun _ _ h => h))
      · refine ⟨1, ?_⟩
        rw [xF_succ, hat]
        exact h2 _ _ _ h1
theorem Ev_mono {d M pc : Nat} {L st : List xV} {σ : xM} {Q Q' : Int → xM → Prop} (h : Ev d M pc L st σ Q) (hq : ∀ v σ', Q v σ' → Q' v σ') : Ev d M pc L st σ Q' := by
  obtain ⟨n, h⟩ := h
  exact ⟨n, xF_le (Nat.le_refl n) h hq⟩
/-- k steps, up to the places of the list -/
def EvN (stops : List Nat) : Nat → Nat → Nat → Nat → List xV → List xV → xM → (Int → xM → Prop) → Prop
  | 0, d, M, pc, L, st, σ, Q => Ev d M pc L st σ Q
  | n + 1, d, M, pc, L, st, σ, Q => match xat M pc with
    | none => False
    | some q => xstp q.1 M pc L st σ (fun pc' L' st' σ' => cond (stops.any (Nat.beq pc')) (Ev d M pc' L' st' σ' Q) (EvN stops n d M pc' L' st' σ' Q))
        (fun k as r => match d with
          | 0 => False
          | d' + 1 => Ev d' k 0 (xent k as) [] σ (fun v σ' => EvN stops n (d' + 1) M (pc + 3) L (xpush k v r) σ' Q))
        (fun v => Q v σ)
theorem xstp_iff {ins : Instr} {M pc : Nat} {L st : List xV} {σ : xM} {K K' : xTK} {C C' : xTC} {R R' : xTR} (hK : ∀ a b c d, K a b c d = K' a b c d) (hC : ∀ k as r, C k as r = C' k as r) (hR : ∀ v, R v = R' v) : xstp ins M pc L st σ K C R = xstp ins M pc L st σ K' C' R' := by
  have e1 : K = K' := by funext a b c d; exact hK a b c d
  have e2 : C = C' := by funext a b c; exact hC a b c
  have e3 : R = R' := by funext a; exact hR a
  rw [e1, e2, e3]
theorem EvN_eq (stops : List Nat) : ∀ (n d M pc : Nat) (L st : List xV) (σ : xM) (Q : Int → xM → Prop), Ev d M pc L st σ Q = EvN stops n d M pc L st σ Q
  | 0, _, _, _, _, _, _, _ => rfl
  | n + 1, d, M, pc, L, st, σ, Q => by
    rw [Ev_eq]
    simp only [EvN]
    cases xat M pc with
    | none => rfl
    | some q =>
      refine xstp_iff (fun a b c e => ?_) (fun k as r => ?_) (fun _ => rfl)
      · rw [← EvN_eq stops n]
        cases stops.any (Nat.beq a) <;> rfl
      · cases d with
        | zero => rfl
        | succ d =>
          show Ev d k 0 _ _ σ _ = Ev d k 0 _ _ σ _
          congr 1
          funext v σ'
          rw [← EvN_eq stops n]
