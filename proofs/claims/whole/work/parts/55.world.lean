/-! ===== the world behind the constructors is the layout ===== -/
def gG1 (G : gG) (ad : Nat → Nat) : gG := (G.1, G.2.1, G.2.2.1, ad, G.2.2.2.2)
set_option maxRecDepth 20000 in
theorem gWorld (G : gG) (a1 a2 : Nat → Nat) : ((List.range 102).map gPi).map (fun i => (blkX9 G a1 ++ blkX10 G a2)[i]?) = (gWs (gG1 G (fun k => gAt a1 a2 (gPi k))) gS0).map some := rfl
