section CM
variable {S : hS} {I : Nat → Int32} {B : Nat → Nat → Int32}
def cmP {α : Type} (I : Nat → Int32) (B : Nat → Nat → Int32) (r : hS × α) : hS × α := (szM r.1 I B, r.2)
def cmV (I : Nat → Int32) (B : Nat → Nat → Int32) (r : hS) : hS := szM r I B
theorem m_tg {a : Nat} : ztg (szM S I B) a = ztg S a := rfl
theorem m_I {k a : Nat} : zI (szM S I B) k a = zI S k a := rfl
theorem m_R {k a : Nat} : zR (szM S I B) k a = zR S k a := rfl
theorem m_L {a : Nat} : zL (szM S I B) a = zL S a := rfl
theorem m_AI {a : Nat} : zAI (szM S I B) a = zAI S a := rfl
theorem m_AR {a : Nat} : zAR (szM S I B) a = zAR S a := rfl
theorem m_ln {a : Nat} : zLen (szM S I B) a = zLen S a := rfl
theorem m_ar {a : Nat} : zar (szM S I B) a = zar S a := rfl
theorem m_al {a : Nat} : zal (szM S I B) a = zal S a := rfl
theorem m_sI {k a : Nat} {v : Int32} : szI (szM S I B) k a v = szM (szI S k a v) I B := rfl
theorem m_sR {k a : Nat} {v : Option Nat} : szR (szM S I B) k a v = szM (szR S k a v) I B := rfl
theorem m_sA {a : Nat} {f : Nat → Int32} : szAI (szM S I B) a f = szM (szAI S a f) I B := rfl
theorem m_ite {α β : Type} {c : Prop} [Decidable c] {x y : Option α} {f : α → β} : Option.map f (if c then x else y) = if c then Option.map f x else Option.map f y := by split <;> rfl
theorem m_zob {α β : Type} {o : Option Nat} {F : Nat → Option α} {f : α → β} : Option.map f (zob o F) = zob o (fun a => Option.map f (F a)) := by cases o <;> rfl
theorem m_zlb {α β : Type} {o : Option Nat} {F : Option Nat → Option α} {f : α → β} : Option.map f (zlb o F) = zlb o (fun a => Option.map f (F a)) := rfl
theorem m_zoc {α β : Type} {o : Option Nat} {x : Option α} {F : Nat → Option α} {f : α → β} : Option.map f (zoc o x F) = zoc o (Option.map f x) (fun a => Option.map f (F a)) := by cases o <;> rfl
theorem m_zcP {α β γ : Type} {x : Option (hS × α)} {F : hS → α → Option β} {f : β → γ} : Option.map f (zcP x F) = zcP x (fun S v => Option.map f (F S v)) := by cases x <;> rfl
theorem m_zcV {β γ : Type} {x : Option hS} {F : hS → Option β} {f : β → γ} : Option.map f (zcV x F) = zcV x (fun S => Option.map f (F S)) := by cases x <;> rfl
theorem m_cP {α β : Type} {x : Option (hS × α)} {F : hS → α → Option β} : zcP (Option.map (cmP I B) x) F = zcP x (fun S v => F (szM S I B) v) := by cases x <;> rfl
theorem m_cV {β : Type} {x : Option hS} {F : hS → Option β} : zcV (Option.map (cmV I B) x) F = zcV x (fun S => F (szM S I B)) := by cases x <;> rfl
theorem m_sP {α : Type} {v : α} : Option.map (cmP I B) (some (S, v)) = some (szM S I B, v) := rfl
theorem m_sV : Option.map (cmV I B) (some S) = some (szM S I B) := rfl
theorem m_nn {α β : Type} {f : α → β} : Option.map f none = none := rfl
theorem m_1 {x : Int64} : ∀ (n : Nat) (l6 l7 : Int32), yE_termValue_34 n (szM S I B) x l6 l7 = (yE_termValue_34 n S x l6 l7).map (cmP I B)
  | 0, _, _ => rfl
  | n + 1, l6, l7 => by
    simp only [yE_termValue_34, m_ite, m_sP, m_1 n] <;> rfl
theorem m_2 {n : Nat} {x : Int64} {x2 x4 : Int32} {p3 : Option Nat} : yE_termValue n (szM S I B) x x2 p3 x4 = (yE_termValue n S x x2 p3 x4).map (cmP I B) := by
  simp only [yE_termValue, m_ite, m_sP, m_1, m_zob, m_tg, m_AI, m_ln, m_nn] <;> rfl
theorem m_3 {n : Nat} {x : Int64} {x2 x4 : Int32} {p3 : Option Nat} : yE_value_28 n (szM S I B) x p3 x2 x4 = (yE_value_28 n S x p3 x2 x4).map (cmP I B) := by
  simp only [yE_value_28, m_ite, m_sP, m_2, m_zcP, m_cP] <;> rfl
theorem m_4 {x : Int64} {x2 : Int32} {p3 : Option Nat} : ∀ (n : Nat) (x4 : Int32), yE_value_3 n (szM S I B) x p3 x2 x4 = (yE_value_3 n S x p3 x2 x4).map (cmP I B)
  | 0, _ => rfl
  | n + 1, x4 => by
    simp only [yE_value_3, m_ite, m_3, m_4 n] <;> rfl
theorem m_5 {n : Nat} {x : Int64} {x2 : Int32} {p3 : Option Nat} : yE_value n (szM S I B) x p3 x2 = (yE_value n S x p3 x2).map (cmP I B) := m_4 n 1
theorem m_6 {n th : Nat} {x1 : Int32} {p2 : Option Nat} : yT_valueFor n (szM S I B) th x1 p2 = (yT_valueFor n S th x1 p2).map (cmP I B) := by
  simp only [yT_valueFor, m_ite, m_sP, m_5, m_zob, m_zlb, m_zcP, m_cP, m_tg, m_R, m_L, m_nn] <;> rfl
theorem m_7 {th : Nat} {x1 x2 : Int32} : yT_queueOf (szM S I B) th x1 x2 = (yT_queueOf S th x1 x2).map (cmP I B) := by
  simp only [yT_queueOf, m_ite, m_sP, m_zob, m_zlb, m_tg, m_R, m_AR, m_ar, m_ln, m_nn] <;> rfl
theorem m_8 {th : Nat} {x1 x2 : Int32} : yQ_add (szM S I B) th x1 x2 = (yQ_add S th x1 x2).map (cmV I B) := by
  simp only [yQ_add, m_ite, m_sV, m_zob, m_zlb, m_tg, m_R, m_I, m_AI, m_ln, m_nn, m_sI, m_sA] <;> rfl
theorem m_9 {th : Nat} {x1 x2 x3 x4 : Int32} : yT_enqueue (szM S I B) th x1 x2 x3 x4 = (yT_enqueue S th x1 x2 x3 x4).map (cmP I B) := by
  simp only [yT_enqueue, m_ite, m_sP, m_7, m_8, m_zob, m_zlb, m_zcP, m_zcV, m_cP, m_cV, m_tg, m_R, m_I, m_nn] <;> rfl
theorem m_10 {th : Nat} {x1 x3 x4 : Int32} {p2 : Option Nat} : yT_send (szM S I B) th x1 p2 x3 x4 = (yT_send S th x1 p2 x3 x4).map (cmP I B) := by
  simp only [yT_send, m_ite, m_sP, m_9, m_zob, m_zlb, m_zcP, m_cP, m_tg, m_R, m_I, m_AR, m_ar, m_ln, m_nn, m_sR] <;> rfl
theorem m_11 {th : Nat} {x1 : Int32} : yA_hasPart (szM S I B) th x1 = (yA_hasPart S th x1).map (cmP I B) := by
  simp only [yA_hasPart, m_ite, m_sP, m_zob, m_zlb, m_tg, m_R, m_I, m_al, m_ln, m_nn] <;> rfl
theorem m_12 {th : Nat} : yA_comesAgain (szM S I B) th = (yA_comesAgain S th).map (cmP I B) := by
  simp only [yA_comesAgain, m_ite, m_sP, m_tg, m_I, m_nn] <;> rfl
theorem m_13 {th : Nat} {x1 : Int32} : yA_enter (szM S I B) th x1 = (yA_enter S th x1).map (cmP I B) := by
  simp only [yA_enter, m_ite, m_sP, m_11, m_12, m_zob, m_zoc, m_zlb, m_zcP, m_cP, m_tg, m_R, m_I, m_AR, m_ar, m_ln, m_nn] <;> rfl
theorem m_14 {th : Nat} : ∀ (n : Nat) (l2 : Int32), yA_ledFrom_2 th n (szM S I B) l2 = (yA_ledFrom_2 th n S l2).map (cmP I B)
  | 0, _ => rfl
  | n + 1, l2 => by
    simp only [yA_ledFrom_2, m_ite, m_sP, m_tg, m_I, m_nn, m_14 n] <;> rfl
theorem m_15 {n th : Nat} {x1 : Int32} : yA_ledFrom n (szM S I B) th x1 = (yA_ledFrom n S th x1).map (cmP I B) := m_14 n x1
theorem m_16 {th n : Nat} {p2 p3 : Option Nat} : yT_goRound_85 th n (szM S I B) p2 p3 = (yT_goRound_85 th n S p2 p3).map (cmP I B) := by
  simp only [yT_goRound_85, m_ite, m_sP, m_13, m_zob, m_zlb, m_zcP, m_cP, m_tg, m_R, m_I, m_nn, m_sI, m_sR] <;> rfl
theorem m_17 {n th : Nat} {x1 : Int32} {p2 : Option Nat} : yT_goRound n (szM S I B) th x1 p2 = (yT_goRound n S th x1 p2).map (cmP I B) := by
  simp only [yT_goRound, m_ite, m_sP, m_6, m_9, m_15, m_16, m_zob, m_zlb, m_zcP, m_cP, m_tg, m_R, m_I, m_AR, m_ar, m_ln, m_nn, m_sI, m_sR] <;> rfl
theorem m_18 {th : Nat} {x1 : Int32} : yQ_valueAt (szM S I B) th x1 = (yQ_valueAt S th x1).map (cmP I B) := by
  simp only [yQ_valueAt, m_ite, m_sP, m_zob, m_zlb, m_tg, m_R, m_I, m_AI, m_ln, m_nn] <;> rfl
theorem m_19 {th : Nat} : yQ_removeFirst (szM S I B) th = (yQ_removeFirst S th).map (cmV I B) := by
  simp only [yQ_removeFirst, m_ite, m_sV, m_tg, m_I, m_nn, m_sI] <;> rfl
theorem m_20 {th : Nat} {l1 l4 : Int32} {p2 p3 : Option Nat} : yT_receive_45 th (szM S I B) l1 p2 p3 l4 = (yT_receive_45 th S l1 p2 p3 l4).map (cmP I B) := by
  simp only [yT_receive_45, m_ite, m_sP, m_13, m_19, m_zob, m_zlb, m_zcP, m_zcV, m_cP, m_cV, m_tg, m_R, m_I, m_AI, m_AR, m_ar, m_ln, m_nn, m_sI, m_sR, m_sA] <;> rfl
theorem m_21 {th : Nat} {x1 : Int32} {p2 : Option Nat} : yT_receive (szM S I B) th x1 p2 = (yT_receive S th x1 p2).map (cmP I B) := by
  simp only [yT_receive, m_ite, m_sP, m_7, m_11, m_18, m_20, m_zob, m_zlb, m_zcP, m_cP, m_tg, m_R, m_I, m_nn] <;> rfl
theorem m_22 {n th : Nat} {x1 : Int32} {p2 : Option Nat} : yT_goOn n (szM S I B) th x1 p2 = (yT_goOn n S th x1 p2).map (cmP I B) := by
  simp only [yT_goOn, m_ite, m_sP, m_6, m_10, m_13, m_17, m_21, m_zob, m_zlb, m_zcP, m_cP, m_tg, m_R, m_I, m_AI, m_AR, m_ar, m_ln, m_nn, m_sI, m_sR, m_sA] <;> rfl
theorem m_23 {n th : Nat} {x1 : Int32} : yT_takeTurn n (szM S I B) th x1 = (yT_takeTurn n S th x1).map (cmP I B) := by
  simp only [yT_takeTurn, m_ite, m_sP, m_22, m_zob, m_zoc, m_zlb, m_zcP, m_cP, m_tg, m_R, m_I, m_AR, m_ar, m_ln, m_nn, m_sI] <;> rfl
end CM
