/-! answers of partial functions -/
def OK {α : Type} (x : Option α) (P : α → Prop) : Prop := ∃ a, x = some a ∧ P a
theorem OK.s {α : Type} {a : α} {P : α → Prop} (h : P a) : OK (some a) P := ⟨a, rfl, h⟩
theorem OK.m {α : Type} {x : Option α} {P Q : α → Prop} (h : OK x P) (f : ∀ a, P a → Q a) : OK x Q := by
  obtain ⟨a, e, p⟩ := h; exact ⟨a, e, f a p⟩
theorem OK.c {α β : Type} {x : Option (α × Wd)} {f : α → Wd → Option β} {P : β → Prop} (h : OK x (fun p => OK (f p.1 p.2) P)) : OK (cl x f) P := by
  obtain ⟨⟨a, w⟩, e, p⟩ := h; subst e; exact p
theorem OK.v {β : Type} {x : Option Wd} {f : Wd → Option β} {P : β → Prop} (h : OK x (fun p => OK (f p) P)) : OK (cv x f) P := by
  obtain ⟨w, e, p⟩ := h; subst e; exact p
theorem OK.l {α β : Type} {x : α} {f : α → Option β} {P : β → Prop} (h : OK (f x) P) : OK (lt x f) P := h
theorem OK.e {α : Type} {x y : Option α} {P : α → Prop} (e : x = y) (h : OK y P) : OK x P := e ▸ h
theorem OK.t {α : Type} {c : Prop} [Decidable c] {x y : Option α} {P : α → Prop} (e : c) (h : OK x P) : OK (if c then x else y) P := by rw [if_pos e]; exact h
theorem OK.f {α : Type} {c : Prop} [Decidable c] {x y : Option α} {P : α → Prop} (e : ¬ c) (h : OK y P) : OK (if c then x else y) P := by rw [if_neg e]; exact h
theorem OK.i {α : Type} {c : Prop} [Decidable c] {x y : Option α} {P : α → Prop} (h1 : c → OK x P) (h2 : ¬ c → OK y P) : OK (if c then x else y) P := by
  by_cases e : c
  · rw [if_pos e]; exact h1 e
  · rw [if_neg e]; exact h2 e
theorem cl_s {α β : Type} (a : α) (w : Wd) (f : α → Wd → Option β) : cl (some (a, w)) f = f a w := rfl
theorem cv_s {β : Type} (w : Wd) (f : Wd → Option β) : cv (some w) f = f w := rfl
theorem lt_s' {α β : Type} (x : α) (f : α → β) : lt x f = f x := rfl
/-! mathematics: base -/
theorem lo1 {A1 τ : Type} {P : τ → Prop} {B : (A1 → Option τ) → A1 → Option τ} {z : A1 → Option τ} (I : Nat → A1 → Prop) (hs : ∀ (n : Nat) (k : A1 → Option τ) (a1 : A1), I n a1 → (∀ (m : Nat) (b1 : A1), m < n → I m b1 → OK (k b1) P) → OK (B k a1) P) : ∀ (f n : Nat) (a1 : A1), n < f → I n a1 → OK (lp f z B a1) P := by
  intro f
  induction f with
  | zero => intro n a1 h; omega
  | succ f ih => intro n a1 hn hI; exact hs n _ a1 hI (fun m b1 hm hb => ih m b1 (by omega) hb)
theorem up1 {A1 τ : Type} {B : (A1 → Option τ) → A1 → Option τ} {z : A1 → Option τ} (st : Nat → A1) (V : Nat → Option τ) (n : Nat) (hs : ∀ (i : Nat) (k : A1 → Option τ), i < n → k (st (i + 1)) = V (i + 1) → B k (st i) = V i) (he : ∀ (k : A1 → Option τ), B k (st n) = V n) : ∀ (f i : Nat), i ≤ n → n - i < f → lp f z B (st i) = V i := by
  intro f
  induction f with
  | zero => intro i hi h; omega
  | succ f ih =>
    intro i hi h
    by_cases e : i = n
    · subst e; exact he _
    · exact hs i _ (by omega) (ih (i + 1) (by omega) (by omega))
theorem lo2 {A1 A2 τ : Type} {P : τ → Prop} {B : (A1 → A2 → Option τ) → A1 → A2 → Option τ} {z : A1 → A2 → Option τ} (I : Nat → A1 → A2 → Prop) (hs : ∀ (n : Nat) (k : A1 → A2 → Option τ) (a1 : A1) (a2 : A2), I n a1 a2 → (∀ (m : Nat) (b1 : A1) (b2 : A2), m < n → I m b1 b2 → OK (k b1 b2) P) → OK (B k a1 a2) P) : ∀ (f n : Nat) (a1 : A1) (a2 : A2), n < f → I n a1 a2 → OK (lp f z B a1 a2) P := by
  intro f
  induction f with
  | zero => intro n a1 a2 h; omega
  | succ f ih => intro n a1 a2 hn hI; exact hs n _ a1 a2 hI (fun m b1 b2 hm hb => ih m b1 b2 (by omega) hb)
theorem up2 {A1 A2 τ : Type} {B : (A1 → A2 → Option τ) → A1 → A2 → Option τ} {z : A1 → A2 → Option τ} (st : Nat → A1 × A2) (V : Nat → Option τ) (n : Nat) (hs : ∀ (i : Nat) (k : A1 → A2 → Option τ), i < n → k (st (i + 1)).1 (st (i + 1)).2 = V (i + 1) → B k (st i).1 (st i).2 = V i) (he : ∀ (k : A1 → A2 → Option τ), B k (st n).1 (st n).2 = V n) : ∀ (f i : Nat), i ≤ n → n - i < f → lp f z B (st i).1 (st i).2 = V i := by
  intro f
  induction f with
  | zero => intro i hi h; omega
  | succ f ih =>
    intro i hi h
    by_cases e : i = n
    · subst e; exact he _
    · exact hs i _ (by omega) (ih (i + 1) (by omega) (by omega))
theorem lo3 {A1 A2 A3 τ : Type} {P : τ → Prop} {B : (A1 → A2 → A3 → Option τ) → A1 → A2 → A3 → Option τ} {z : A1 → A2 → A3 → Option τ} (I : Nat → A1 → A2 → A3 → Prop) (hs : ∀ (n : Nat) (k : A1 → A2 → A3 → Option τ) (a1 : A1) (a2 : A2) (a3 : A3), I n a1 a2 a3 → (∀ (m : Nat) (b1 : A1) (b2 : A2) (b3 : A3), m < n → I m b1 b2 b3 → OK (k b1 b2 b3) P) → OK (B k a1 a2 a3) P) : ∀ (f n : Nat) (a1 : A1) (a2 : A2) (a3 : A3), n < f → I n a1 a2 a3 → OK (lp f z B a1 a2 a3) P := by
  intro f
  induction f with
  | zero => intro n a1 a2 a3 h; omega
  | succ f ih => intro n a1 a2 a3 hn hI; exact hs n _ a1 a2 a3 hI (fun m b1 b2 b3 hm hb => ih m b1 b2 b3 (by omega) hb)
theorem up3 {A1 A2 A3 τ : Type} {B : (A1 → A2 → A3 → Option τ) → A1 → A2 → A3 → Option τ} {z : A1 → A2 → A3 → Option τ} (st : Nat → A1 × A2 × A3) (V : Nat → Option τ) (n : Nat) (hs : ∀ (i : Nat) (k : A1 → A2 → A3 → Option τ), i < n → k (st (i + 1)).1 (st (i + 1)).2.1 (st (i + 1)).2.2 = V (i + 1) → B k (st i).1 (st i).2.1 (st i).2.2 = V i) (he : ∀ (k : A1 → A2 → A3 → Option τ), B k (st n).1 (st n).2.1 (st n).2.2 = V n) : ∀ (f i : Nat), i ≤ n → n - i < f → lp f z B (st i).1 (st i).2.1 (st i).2.2 = V i := by
  intro f
  induction f with
  | zero => intro i hi h; omega
  | succ f ih =>
    intro i hi h
    by_cases e : i = n
    · subst e; exact he _
    · exact hs i _ (by omega) (ih (i + 1) (by omega) (by omega))
theorem lo4 {A1 A2 A3 A4 τ : Type} {P : τ → Prop} {B : (A1 → A2 → A3 → A4 → Option τ) → A1 → A2 → A3 → A4 → Option τ} {z : A1 → A2 → A3 → A4 → Option τ} (I : Nat → A1 → A2 → A3 → A4 → Prop) (hs : ∀ (n : Nat) (k : A1 → A2 → A3 → A4 → Option τ) (a1 : A1) (a2 : A2) (a3 : A3) (a4 : A4), I n a1 a2 a3 a4 → (∀ (m : Nat) (b1 : A1) (b2 : A2) (b3 : A3) (b4 : A4), m < n → I m b1 b2 b3 b4 → OK (k b1 b2 b3 b4) P) → OK (B k a1 a2 a3 a4) P) : ∀ (f n : Nat) (a1 : A1) (a2 : A2) (a3 : A3) (a4 : A4), n < f → I n a1 a2 a3 a4 → OK (lp f z B a1 a2 a3 a4) P := by
  intro f
  induction f with
  | zero => intro n a1 a2 a3 a4 h; omega
  | succ f ih => intro n a1 a2 a3 a4 hn hI; exact hs n _ a1 a2 a3 a4 hI (fun m b1 b2 b3 b4 hm hb => ih m b1 b2 b3 b4 (by omega) hb)
theorem up4 {A1 A2 A3 A4 τ : Type} {B : (A1 → A2 → A3 → A4 → Option τ) → A1 → A2 → A3 → A4 → Option τ} {z : A1 → A2 → A3 → A4 → Option τ} (st : Nat → A1 × A2 × A3 × A4) (V : Nat → Option τ) (n : Nat) (hs : ∀ (i : Nat) (k : A1 → A2 → A3 → A4 → Option τ), i < n → k (st (i + 1)).1 (st (i + 1)).2.1 (st (i + 1)).2.2.1 (st (i + 1)).2.2.2 = V (i + 1) → B k (st i).1 (st i).2.1 (st i).2.2.1 (st i).2.2.2 = V i) (he : ∀ (k : A1 → A2 → A3 → A4 → Option τ), B k (st n).1 (st n).2.1 (st n).2.2.1 (st n).2.2.2 = V n) : ∀ (f i : Nat), i ≤ n → n - i < f → lp f z B (st i).1 (st i).2.1 (st i).2.2.1 (st i).2.2.2 = V i := by
  intro f
  induction f with
  | zero => intro i hi h; omega
  | succ f ih =>
    intro i hi h
    by_cases e : i = n
    · subst e; exact he _
    · exact hs i _ (by omega) (ih (i + 1) (by omega) (by omega))
theorem lo5 {A1 A2 A3 A4 A5 τ : Type} {P : τ → Prop} {B : (A1 → A2 → A3 → A4 → A5 → Option τ) → A1 → A2 → A3 → A4 → A5 → Option τ} {z : A1 → A2 → A3 → A4 → A5 → Option τ} (I : Nat → A1 → A2 → A3 → A4 → A5 → Prop) (hs : ∀ (n : Nat) (k : A1 → A2 → A3 → A4 → A5 → Option τ) (a1 : A1) (a2 : A2) (a3 : A3) (a4 : A4) (a5 : A5), I n a1 a2 a3 a4 a5 → (∀ (m : Nat) (b1 : A1) (b2 : A2) (b3 : A3) (b4 : A4) (b5 : A5), m < n → I m b1 b2 b3 b4 b5 → OK (k b1 b2 b3 b4 b5) P) → OK (B k a1 a2 a3 a4 a5) P) : ∀ (f n : Nat) (a1 : A1) (a2 : A2) (a3 : A3) (a4 : A4) (a5 : A5), n < f → I n a1 a2 a3 a4 a5 → OK (lp f z B a1 a2 a3 a4 a5) P := by
  intro f
  induction f with
  | zero => intro n a1 a2 a3 a4 a5 h; omega
  | succ f ih => intro n a1 a2 a3 a4 a5 hn hI; exact hs n _ a1 a2 a3 a4 a5 hI (fun m b1 b2 b3 b4 b5 hm hb => ih m b1 b2 b3 b4 b5 (by omega) hb)
theorem up5 {A1 A2 A3 A4 A5 τ : Type} {B : (A1 → A2 → A3 → A4 → A5 → Option τ) → A1 → A2 → A3 → A4 → A5 → Option τ} {z : A1 → A2 → A3 → A4 → A5 → Option τ} (st : Nat → A1 × A2 × A3 × A4 × A5) (V : Nat → Option τ) (n : Nat) (hs : ∀ (i : Nat) (k : A1 → A2 → A3 → A4 → A5 → Option τ), i < n → k (st (i + 1)).1 (st (i + 1)).2.1 (st (i + 1)).2.2.1 (st (i + 1)).2.2.2.1 (st (i + 1)).2.2.2.2 = V (i + 1) → B k (st i).1 (st i).2.1 (st i).2.2.1 (st i).2.2.2.1 (st i).2.2.2.2 = V i) (he : ∀ (k : A1 → A2 → A3 → A4 → A5 → Option τ), B k (st n).1 (st n).2.1 (st n).2.2.1 (st n).2.2.2.1 (st n).2.2.2.2 = V n) : ∀ (f i : Nat), i ≤ n → n - i < f → lp f z B (st i).1 (st i).2.1 (st i).2.2.1 (st i).2.2.2.1 (st i).2.2.2.2 = V i := by
  intro f
  induction f with
  | zero => intro i hi h; omega
  | succ f ih =>
    intro i hi h
    by_cases e : i = n
    · subst e; exact he _
    · exact hs i _ (by omega) (ih (i + 1) (by omega) (by omega))
theorem lo6 {A1 A2 A3 A4 A5 A6 τ : Type} {P : τ → Prop} {B : (A1 → A2 → A3 → A4 → A5 → A6 → Option τ) → A1 → A2 → A3 → A4 → A5 → A6 → Option τ} {z : A1 → A2 → A3 → A4 → A5 → A6 → Option τ} (I : Nat → A1 → A2 → A3 → A4 → A5 → A6 → Prop) (hs : ∀ (n : Nat) (k : A1 → A2 → A3 → A4 → A5 → A6 → Option τ) (a1 : A1) (a2 : A2) (a3 : A3) (a4 : A4) (a5 : A5) (a6 : A6), I n a1 a2 a3 a4 a5 a6 → (∀ (m : Nat) (b1 : A1) (b2 : A2) (b3 : A3) (b4 : A4) (b5 : A5) (b6 : A6), m < n → I m b1 b2 b3 b4 b5 b6 → OK (k b1 b2 b3 b4 b5 b6) P) → OK (B k a1 a2 a3 a4 a5 a6) P) : ∀ (f n : Nat) (a1 : A1) (a2 : A2) (a3 : A3) (a4 : A4) (a5 : A5) (a6 : A6), n < f → I n a1 a2 a3 a4 a5 a6 → OK (lp f z B a1 a2 a3 a4 a5 a6) P := by
  intro f
  induction f with
  | zero => intro n a1 a2 a3 a4 a5 a6 h; omega
  | succ f ih => intro n a1 a2 a3 a4 a5 a6 hn hI; exact hs n _ a1 a2 a3 a4 a5 a6 hI (fun m b1 b2 b3 b4 b5 b6 hm hb => ih m b1 b2 b3 b4 b5 b6 (by omega) hb)
theorem up6 {A1 A2 A3 A4 A5 A6 τ : Type} {B : (A1 → A2 → A3 → A4 → A5 → A6 → Option τ) → A1 → A2 → A3 → A4 → A5 → A6 → Option τ} {z : A1 → A2 → A3 → A4 → A5 → A6 → Option τ} (st : Nat → A1 × A2 × A3 × A4 × A5 × A6) (V : Nat → Option τ) (n : Nat) (hs : ∀ (i : Nat) (k : A1 → A2 → A3 → A4 → A5 → A6 → Option τ), i < n → k (st (i + 1)).1 (st (i + 1)).2.1 (st (i + 1)).2.2.1 (st (i + 1)).2.2.2.1 (st (i + 1)).2.2.2.2.1 (st (i + 1)).2.2.2.2.2 = V (i + 1) → B k (st i).1 (st i).2.1 (st i).2.2.1 (st i).2.2.2.1 (st i).2.2.2.2.1 (st i).2.2.2.2.2 = V i) (he : ∀ (k : A1 → A2 → A3 → A4 → A5 → A6 → Option τ), B k (st n).1 (st n).2.1 (st n).2.2.1 (st n).2.2.2.1 (st n).2.2.2.2.1 (st n).2.2.2.2.2 = V n) : ∀ (f i : Nat), i ≤ n → n - i < f → lp f z B (st i).1 (st i).2.1 (st i).2.2.1 (st i).2.2.2.1 (st i).2.2.2.2.1 (st i).2.2.2.2.2 = V i := by
  intro f
  induction f with
  | zero => intro i hi h; omega
  | succ f ih =>
    intro i hi h
    by_cases e : i = n
    · subst e; exact he _
    · exact hs i _ (by omega) (ih (i + 1) (by omega) (by omega))
theorem lo7 {A1 A2 A3 A4 A5 A6 A7 τ : Type} {P : τ → Prop} {B : (A1 → A2 → A3 → A4 → A5 → A6 → A7 → Option τ) → A1 → A2 → A3 → A4 → A5 → A6 → A7 → Option τ} {z : A1 → A2 → A3 → A4 → A5 → A6 → A7 → Option τ} (I : Nat → A1 → A2 → A3 → A4 → A5 → A6 → A7 → Prop) (hs : ∀ (n : Nat) (k : A1 → A2 → A3 → A4 → A5 → A6 → A7 → Option τ) (a1 : A1) (a2 : A2) (a3 : A3) (a4 : A4) (a5 : A5) (a6 : A6) (a7 : A7), I n a1 a2 a3 a4 a5 a6 a7 → (∀ (m : Nat) (b1 : A1) (b2 : A2) (b3 : A3) (b4 : A4) (b5 : A5) (b6 : A6) (b7 : A7), m < n → I m b1 b2 b3 b4 b5 b6 b7 → OK (k b1 b2 b3 b4 b5 b6 b7) P) → OK (B k a1 a2 a3 a4 a5 a6 a7) P) : ∀ (f n : Nat) (a1 : A1) (a2 : A2) (a3 : A3) (a4 : A4) (a5 : A5) (a6 : A6) (a7 : A7), n < f → I n a1 a2 a3 a4 a5 a6 a7 → OK (lp f z B a1 a2 a3 a4 a5 a6 a7) P := by
  intro f
  induction f with
  | zero => intro n a1 a2 a3 a4 a5 a6 a7 h; omega
  | succ f ih => intro n a1 a2 a3 a4 a5 a6 a7 hn hI; exact hs n _ a1 a2 a3 a4 a5 a6 a7 hI (fun m b1 b2 b3 b4 b5 b6 b7 hm hb => ih m b1 b2 b3 b4 b5 b6 b7 (by omega) hb)
theorem up7 {A1 A2 A3 A4 A5 A6 A7 τ : Type} {B : (A1 → A2 → A3 → A4 → A5 → A6 → A7 → Option τ) → A1 → A2 → A3 → A4 → A5 → A6 → A7 → Option τ} {z : A1 → A2 → A3 → A4 → A5 → A6 → A7 → Option τ} (st : Nat → A1 × A2 × A3 × A4 × A5 × A6 × A7) (V : Nat → Option τ) (n : Nat) (hs : ∀ (i : Nat) (k : A1 → A2 → A3 → A4 → A5 → A6 → A7 → Option τ), i < n → k (st (i + 1)).1 (st (i + 1)).2.1 (st (i + 1)).2.2.1 (st (i + 1)).2.2.2.1 (st (i + 1)).2.2.2.2.1 (st (i + 1)).2.2.2.2.2.1 (st (i + 1)).2.2.2.2.2.2 = V (i + 1) → B k (st i).1 (st i).2.1 (st i).2.2.1 (st i).2.2.2.1 (st i).2.2.2.2.1 (st i).2.2.2.2.2.1 (st i).2.2.2.2.2.2 = V i) (he : ∀ (k : A1 → A2 → A3 → A4 → A5 → A6 → A7 → Option τ), B k (st n).1 (st n).2.1 (st n).2.2.1 (st n).2.2.2.1 (st n).2.2.2.2.1 (st n).2.2.2.2.2.1 (st n).2.2.2.2.2.2 = V n) : ∀ (f i : Nat), i ≤ n → n - i < f → lp f z B (st i).1 (st i).2.1 (st i).2.2.1 (st i).2.2.2.1 (st i).2.2.2.2.1 (st i).2.2.2.2.2.1 (st i).2.2.2.2.2.2 = V i := by
  intro f
  induction f with
  | zero => intro i hi h; omega
  | succ f ih =>
    intro i hi h
    by_cases e : i = n
    · subst e; exact he _
    · exact hs i _ (by omega) (ih (i + 1) (by omega) (by omega))
theorem lo8 {A1 A2 A3 A4 A5 A6 A7 A8 τ : Type} {P : τ → Prop} {B : (A1 → A2 → A3 → A4 → A5 → A6 → A7 → A8 → Option τ) → A1 → A2 → A3 → A4 → A5 → A6 → A7 → A8 → Option τ} {z : A1 → A2 → A3 → A4 → A5 → A6 → A7 → A8 → Option τ} (I : Nat → A1 → A2 → A3 → A4 → A5 → A6 → A7 → A8 → Prop) (hs : ∀ (n : Nat) (k : A1 → A2 → A3 → A4 → A5 → A6 → A7 → A8 → Option τ) (a1 : A1) (a2 : A2) (a3 : A3) (a4 : A4) (a5 : A5) (a6 : A6) (a7 : A7) (a8 : A8), I n a1 a2 a3 a4 a5 a6 a7 a8 → (∀ (m : Nat) (b1 : A1) (b2 : A2) (b3 : A3) (b4 : A4) (b5 : A5) (b6 : A6) (b7 : A7) (b8 : A8), m < n → I m b1 b2 b3 b4 b5 b6 b7 b8 → OK (k b1 b2 b3 b4 b5 b6 b7 b8) P) → OK (B k a1 a2 a3 a4 a5 a6 a7 a8) P) : ∀ (f n : Nat) (a1 : A1) (a2 : A2) (a3 : A3) (a4 : A4) (a5 : A5) (a6 : A6) (a7 : A7) (a8 : A8), n < f → I n a1 a2 a3 a4 a5 a6 a7 a8 → OK (lp f z B a1 a2 a3 a4 a5 a6 a7 a8) P := by
  intro f
  induction f with
  | zero => intro n a1 a2 a3 a4 a5 a6 a7 a8 h; omega
  | succ f ih => intro n a1 a2 a3 a4 a5 a6 a7 a8 hn hI; exact hs n _ a1 a2 a3 a4 a5 a6 a7 a8 hI (fun m b1 b2 b3 b4 b5 b6 b7 b8 hm hb => ih m b1 b2 b3 b4 b5 b6 b7 b8 (by omega) hb)
theorem up8 {A1 A2 A3 A4 A5 A6 A7 A8 τ : Type} {B : (A1 → A2 → A3 → A4 → A5 → A6 → A7 → A8 → Option τ) → A1 → A2 → A3 → A4 → A5 → A6 → A7 → A8 → Option τ} {z : A1 → A2 → A3 → A4 → A5 → A6 → A7 → A8 → Option τ} (st : Nat → A1 × A2 × A3 × A4 × A5 × A6 × A7 × A8) (V : Nat → Option τ) (n : Nat) (hs : ∀ (i : Nat) (k : A1 → A2 → A3 → A4 → A5 → A6 → A7 → A8 → Option τ), i < n → k (st (i + 1)).1 (st (i + 1)).2.1 (st (i + 1)).2.2.1 (st (i + 1)).2.2.2.1 (st (i + 1)).2.2.2.2.1 (st (i + 1)).2.2.2.2.2.1 (st (i + 1)).2.2.2.2.2.2.1 (st (i + 1)).2.2.2.2.2.2.2 = V (i + 1) → B k (st i).1 (st i).2.1 (st i).2.2.1 (st i).2.2.2.1 (st i).2.2.2.2.1 (st i).2.2.2.2.2.1 (st i).2.2.2.2.2.2.1 (st i).2.2.2.2.2.2.2 = V i) (he : ∀ (k : A1 → A2 → A3 → A4 → A5 → A6 → A7 → A8 → Option τ), B k (st n).1 (st n).2.1 (st n).2.2.1 (st n).2.2.2.1 (st n).2.2.2.2.1 (st n).2.2.2.2.2.1 (st n).2.2.2.2.2.2.1 (st n).2.2.2.2.2.2.2 = V n) : ∀ (f i : Nat), i ≤ n → n - i < f → lp f z B (st i).1 (st i).2.1 (st i).2.2.1 (st i).2.2.2.1 (st i).2.2.2.2.1 (st i).2.2.2.2.2.1 (st i).2.2.2.2.2.2.1 (st i).2.2.2.2.2.2.2 = V i := by
  intro f
  induction f with
  | zero => intro i hi h; omega
  | succ f ih =>
    intro i hi h
    by_cases e : i = n
    · subst e; exact he _
    · exact hs i _ (by omega) (ih (i + 1) (by omega) (by omega))
theorem lo9 {A1 A2 A3 A4 A5 A6 A7 A8 A9 τ : Type} {P : τ → Prop} {B : (A1 → A2 → A3 → A4 → A5 → A6 → A7 → A8 → A9 → Option τ) → A1 → A2 → A3 → A4 → A5 → A6 → A7 → A8 → A9 → Option τ} {z : A1 → A2 → A3 → A4 → A5 → A6 → A7 → A8 → A9 → Option τ} (I : Nat → A1 → A2 → A3 → A4 → A5 → A6 → A7 → A8 → A9 → Prop) (hs : ∀ (n : Nat) (k : A1 → A2 → A3 → A4 → A5 → A6 → A7 → A8 → A9 → Option τ) (a1 : A1) (a2 : A2) (a3 : A3) (a4 : A4) (a5 : A5) (a6 : A6) (a7 : A7) (a8 : A8) (a9 : A9), I n a1 a2 a3 a4 a5 a6 a7 a8 a9 → (∀ (m : Nat) (b1 : A1) (b2 : A2) (b3 : A3) (b4 : A4) (b5 : A5) (b6 : A6) (b7 : A7) (b8 : A8) (b9 : A9), m < n → I m b1 b2 b3 b4 b5 b6 b7 b8 b9 → OK (k b1 b2 b3 b4 b5 b6 b7 b8 b9) P) → OK (B k a1 a2 a3 a4 a5 a6 a7 a8 a9) P) : ∀ (f n : Nat) (a1 : A1) (a2 : A2) (a3 : A3) (a4 : A4) (a5 : A5) (a6 : A6) (a7 : A7) (a8 : A8) (a9 : A9), n < f → I n a1 a2 a3 a4 a5 a6 a7 a8 a9 → OK (lp f z B a1 a2 a3 a4 a5 a6 a7 a8 a9) P := by
  intro f
  induction f with
  | zero => intro n a1 a2 a3 a4 a5 a6 a7 a8 a9 h; omega
  | succ f ih => intro n a1 a2 a3 a4 a5 a6 a7 a8 a9 hn hI; exact hs n _ a1 a2 a3 a4 a5 a6 a7 a8 a9 hI (fun m b1 b2 b3 b4 b5 b6 b7 b8 b9 hm hb => ih m b1 b2 b3 b4 b5 b6 b7 b8 b9 (by omega) hb)
theorem up9 {A1 A2 A3 A4 A5 A6 A7 A8 A9 τ : Type} {B : (A1 → A2 → A3 → A4 → A5 → A6 → A7 → A8 → A9 → Option τ) → A1 → A2 → A3 → A4 → A5 → A6 → A7 → A8 → A9 → Option τ} {z : A1 → A2 → A3 → A4 → A5 → A6 → A7 → A8 → A9 → Option τ} (st : Nat → A1 × A2 × A3 × A4 × A5 × A6 × A7 × A8 × A9) (V : Nat → Option τ) (n : Nat) (hs : ∀ (i : Nat) (k : A1 → A2 → A3 → A4 → A5 → A6 → A7 → A8 → A9 → Option τ), i < n → k (st (i + 1)).1 (st (i + 1)).2.1 (st (i + 1)).2.2.1 (st (i + 1)).2.2.2.1 (st (i + 1)).2.2.2.2.1 (st (i + 1)).2.2.2.2.2.1 (st (i + 1)).2.2.2.2.2.2.1 (st (i + 1)).2.2.2.2.2.2.2.1 (st (i + 1)).2.2.2.2.2.2.2.2 = V (i + 1) → B k (st i).1 (st i).2.1 (st i).2.2.1 (st i).2.2.2.1 (st i).2.2.2.2.1 (st i).2.2.2.2.2.1 (st i).2.2.2.2.2.2.1 (st i).2.2.2.2.2.2.2.1 (st i).2.2.2.2.2.2.2.2 = V i) (he : ∀ (k : A1 → A2 → A3 → A4 → A5 → A6 → A7 → A8 → A9 → Option τ), B k (st n).1 (st n).2.1 (st n).2.2.1 (st n).2.2.2.1 (st n).2.2.2.2.1 (st n).2.2.2.2.2.1 (st n).2.2.2.2.2.2.1 (st n).2.2.2.2.2.2.2.1 (st n).2.2.2.2.2.2.2.2 = V n) : ∀ (f i : Nat), i ≤ n → n - i < f → lp f z B (st i).1 (st i).2.1 (st i).2.2.1 (st i).2.2.2.1 (st i).2.2.2.2.1 (st i).2.2.2.2.2.1 (st i).2.2.2.2.2.2.1 (st i).2.2.2.2.2.2.2.1 (st i).2.2.2.2.2.2.2.2 = V i := by
  intro f
  induction f with
  | zero => intro i hi h; omega
  | succ f ih =>
    intro i hi h
    by_cases e : i = n
    · subst e; exact he _
    · exact hs i _ (by omega) (ih (i + 1) (by omega) (by omega))
theorem fu_eq : fu = 20000 := rfl
/-! numbers -/
def bI (b : Bool) : Int32 := if b then 1 else 0
theorem bI_0 {b : Bool} : (bI b = 0) ↔ b = false := by cases b <;> decide
theorem bI_t : bI true = 1 := rfl
theorem bI_f : bI false = 0 := rfl
theorem bI_B (b : Bool) : isB (bI b) = true := by cases b <;> decide
theorem bI_if {b : Bool} : (if bI b = 0 then (0 : Int32) else 1) = bI b := by cases b <;> decide
theorem if_b0 {α : Type} {b : Bool} {x y : α} : (if bI b = 0 then x else y) = if b = false then x else y := by
  cases b
  · rw [if_pos bI_f, if_pos rfl]
  · rw [if_neg (by decide), if_neg (by decide)]
theorem if_b1 {α : Type} {b : Bool} {x y : α} : (if bI b = 1 then x else y) = if b = true then x else y := by
  cases b
  · rw [if_neg (by decide), if_neg (by decide)]
  · rw [if_pos bI_t, if_pos rfl]
theorem if_nE {α : Type} {a b : Nat} (ha : a < 2 ^ 31) (hb : b < 2 ^ 31) {x y : α} : (if nI a = nI b then x else y) = if a = b then x else y := by
  by_cases h : a = b
  · rw [if_pos h, if_pos (congrArg nI h)]
  · rw [if_neg h, if_neg (fun e => h ((nI_eq ha hb).mp e))]
theorem z_tl (x : Int32) : x.toInt < 2147483648 := Int32.toInt_lt x
theorem z_tg (x : Int32) : -2147483648 ≤ x.toInt := Int32.le_toInt x
theorem z_add {x y : Int32} (h1 : -2147483648 ≤ x.toInt + y.toInt) (h2 : x.toInt + y.toInt < 2147483648) : (x + y).toInt = x.toInt + y.toInt := by
  rw [Int32.toInt_add]; exact Int.bmod_eq_of_le (by omega) (by omega)
theorem z_sub {x y : Int32} (h1 : -2147483648 ≤ x.toInt - y.toInt) (h2 : x.toInt - y.toInt < 2147483648) : (x - y).toInt = x.toInt - y.toInt := by
  rw [Int32.toInt_sub]; exact Int.bmod_eq_of_le (by omega) (by omega)
theorem z_lt {x y : Int32} : x < y ↔ x.toInt < y.toInt := Int32.lt_iff_toInt_lt
theorem z_le {x y : Int32} : x ≤ y ↔ x.toInt ≤ y.toInt := Int32.le_iff_toInt_le
theorem z_eq {x y : Int32} : x = y ↔ x.toInt = y.toInt := Int32.toInt_inj.symm
theorem z_l (x : Int32) : x.toInt64.toInt = x.toInt := Int32.toInt_toInt64 x
theorem z_lm (x : Int32) : (x.toInt64 - 1).toInt = x.toInt - 1 := by
  have h1 := z_tl x
  have h2 := z_tg x
  rw [Int64.toInt_sub, z_l]
  exact Int.bmod_eq_of_le (by show -(((2 ^ 64 : Nat) : Int) / 2) ≤ x.toInt - 1; omega) (by show x.toInt - 1 < (((2 ^ 64 : Nat) : Int) + 1) / 2; omega)
theorem z_la (x : Int32) (c : Int64) (h1 : 0 ≤ c.toInt) (h2 : c.toInt ≤ 1000) : (c + x.toInt64).toInt = c.toInt + x.toInt := by
  have h3 := z_tl x
  have h4 := z_tg x
  rw [Int64.toInt_add, z_l]
  exact Int.bmod_eq_of_le (by show -(((2 ^ 64 : Nat) : Int) / 2) ≤ c.toInt + x.toInt; omega) (by show c.toInt + x.toInt < (((2 ^ 64 : Nat) : Int) + 1) / 2; omega)
theorem z_of {x : Int32} (h : 0 ≤ x.toInt) : x = nI x.toInt.toNat := by
  have := z_tl x
  rw [z_eq, nI_toInt (by omega)]; omega
theorem z_ex {x : Int32} {n : Nat} (h : 0 ≤ x.toInt) (h2 : x.toInt < n) : ∃ i, i < n ∧ x = nI i := ⟨x.toInt.toNat, by omega, z_of h⟩
theorem z_inb {i n : Nat} (h : i < n) (hn : n < 2 ^ 31) : inb (nI i) n = true := decide_eq_true (nI_in h hn)
def rng (x y : Int32) : Bool := decide (0 ≤ x.toInt ∧ x.toInt < y.toInt)
theorem rng_ex {x : Int32} {n : Nat} (hn : n < 2 ^ 31) (h : rng x (nI n) = true) : ∃ i, i < n ∧ x = nI i := by
  have h := of_decide_eq_true h
  rw [nI_toInt hn] at h
  exact z_ex h.1 h.2
theorem rng_nI {i n : Nat} (h : i < n) (hn : n < 2 ^ 31) : rng (nI i) (nI n) = true := by
  refine decide_eq_true ?_
  rw [nI_toInt hn, nI_toInt (by omega)]; omega
theorem c_in0 {x y : Int32} {w : Wd} : (if x < 0 then (some ((0 : Int32), w)) else if y ≤ x then (some (0, w)) else some (1, w)) = some (bI (rng x y), w) := by
  have z : (0 : Int32).toInt = 0 := rfl
  by_cases h : x < 0
  · rw [if_pos h]
    rw [z_lt, z] at h
    rw [show rng x y = false from decide_eq_false (by omega)]; rfl
  · rw [if_neg h]
    rw [z_lt, z] at h
    by_cases h2 : y ≤ x
    · rw [if_pos h2]
      rw [z_le] at h2
      rw [show rng x y = false from decide_eq_false (by omega)]; rfl
    · rw [if_neg h2]
      rw [z_le] at h2
      rw [show rng x y = true from decide_eq_true (by omega)]; rfl
theorem m_in (x : Int32) (a b : Int64) (w : Wd) : f_X12_in x.toInt64 a b w = some (bI (decide (a.toInt ≤ x.toInt ∧ x.toInt ≤ b.toInt)), w) := by
  unfold f_X12_in
  simp only [lg_cmp_lt, lg_cmp_gt, Int64.lt_iff_toInt_lt, z_l]
  by_cases h : x.toInt < a.toInt
  · rw [if_pos h, decide_eq_false (by omega)]; rfl
  · rw [if_neg h]
    by_cases h2 : b.toInt < x.toInt
    · rw [if_pos h2, decide_eq_false (by omega)]; rfl
    · rw [if_neg h2, decide_eq_true (by omega)]; rfl
theorem m_in0 (x y : Int32) (w : Wd) : (cl (f_X12_in x.toInt64 0 (y.toInt64 - 1) w) fun r w1 => if isB r = true then some (r, w1) else none) = some (bI (rng x y), w) := by
  rw [m_in, cl_s, if_pos (bI_B _), z_lm]
  have e : decide ((0 : Int64).toInt ≤ x.toInt ∧ x.toInt ≤ y.toInt - 1) = rng x y := by
    unfold rng
    have z : (0 : Int64).toInt = 0 := rfl
    rw [z]
    exact decide_eq_decide.mpr (by omega)
  rw [e]
/-! worlds -/
theorem wI_g (w : Wd) (o k : Nat) (v : Int32) (a b : Nat) : (wI w o k v).1 a b = if a = o ∧ b = k then v else w.1 a b := by
  unfold wI upd
  by_cases h : a = o
  · subst h; by_cases h2 : b = k
    · subst h2; simp
    · simp [h2]
  · simp [h]
theorem wI_l (w : Wd) (o k : Nat) (v : Int32) : (wI w o k v).2 = w.2 := rfl
theorem wG_i (w : Wd) (o k : Nat) (v : Int64) : (wG w o k v).1 = w.1 := rfl
theorem wG_g (w : Wd) (o k : Nat) (v : Int64) (a b : Nat) : (wG w o k v).2 a b = if a = o ∧ b = k then v else w.2 a b := by
  unfold wG vp_updL
  by_cases h : a = o
  · subst h; by_cases h2 : b = k
    · subst h2; simp
    · simp [h2]
  · simp [h]
theorem wC_g (w : Wd) (o : Nat) (f : Nat → Int32) (a : Nat) : (wC w o f).1 a = if a = o then f else w.1 a := rfl
theorem wC_l (w : Wd) (o : Nat) (f : Nat → Int32) : (wC w o f).2 = w.2 := rfl
theorem wI_c (w : Wd) (o k : Nat) (v : Int32) : wI w o k v = wC w o (upd (w.1 o) k v) := rfl
theorem wC_c (w : Wd) (o : Nat) (f g : Nat → Int32) : wC (wC w o f) o g = wC w o g := by
  unfold wC
  refine Prod.ext (funext fun a => ?_) rfl
  by_cases h : a = o
  · simp [h]
  · simp [h]
/-! bits -/
theorem z_bit {i : Nat} (hi : i < 32) (x : Int32) : (x >>> (nI i &&& 31)) &&& 1 = bI (bt x i) := by
  apply b_ext
  intro j hj
  have h1 : ∀ j, j < 32 → bt 1 j = decide (j = 0) := by decide +kernel
  have h2 : ∀ j, j < 32 → bt (bI (bt x i)) j = (decide (j = 0) && bt x i) := by
    intro j hj
    cases bt x i
    · rw [bI_f, b_0]; simp
    · rw [bI_t, h1 j hj]; simp
  rw [b_and, b_sshr i hi x hj, h1 j hj, h2 j hj]
  by_cases h : j = 0
  · subst h; simp [hi]
  · simp [h]
theorem z_one {i j : Nat} (hi : i < 32) (hj : j < 32) : bt (1 <<< (nI i &&& 31)) j = decide (j = i) := by
  have h1 : ∀ j, j < 32 → bt 1 j = decide (j = 0) := by decide +kernel
  rw [b_shl i hi 1 hj]
  by_cases h : i ≤ j
  · rw [h1 (j - i) (by omega)]
    by_cases h2 : j = i
    · subst h2; simp
    · simp [h, h2]; omega
  · have : ¬ j = i := by omega
    simp [h, this]
theorem z_not {x : Int32} {i : Nat} (hi : i < 32) : bt (x ^^^ (-1)) i = !(bt x i) := by
  rw [b_xor, b_m1 i hi]; cases bt x i <;> rfl
