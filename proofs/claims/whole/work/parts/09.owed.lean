theorem gx_dummy : True := trivial
