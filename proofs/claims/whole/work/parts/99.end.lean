theorem gw_nothing : True := trivial
